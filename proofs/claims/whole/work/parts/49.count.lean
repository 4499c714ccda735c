/-! count, of both; bounce -/
theorem oCount_o {A : Al} {w : Int} (h : ¬ (0 ≤ w ∧ w ≤ 21)) : oCount A w = -2000000002 := by
  unfold oCount
  rw [if_neg (by omega), if_neg (by omega), if_neg (by omega), if_neg (by omega), if_neg (by omega), if_neg (by omega), if_neg (by omega), if_neg (by omega), if_neg (by omega), if_neg (by omega)]
theorem oCount_0 {A : Al} {w : Int} (h : w = 0) : oCount A w = A.1.1 := by
  unfold oCount
  rw [if_pos (by omega)]
theorem oCount_1 {A : Al} {w : Int} (h : 1 ≤ w ∧ w ≤ 4) : oCount A w = ((A.2.2.2.1 (w - 1)).1.1.length : Int) := by
  unfold oCount
  rw [if_neg (by omega), if_pos (by omega)]
theorem oCount_2 {A : Al} {w : Int} (h : w = 5) : oCount A w = sbs A.2.2.2.1 := by
  unfold oCount
  rw [if_neg (by omega), if_neg (by omega), if_pos (by omega)]
theorem oCount_3 {A : Al} {w : Int} (h : w = 6) : oCount A w = lds A.1 A.2.2.2.1 := by
  unfold oCount
  rw [if_neg (by omega), if_neg (by omega), if_neg (by omega), if_pos (by omega)]
theorem oCount_4 {A : Al} {w : Int} (h : w = 7) : oCount A w = sil A.1 A.2.2.2.1 := by
  unfold oCount
  rw [if_neg (by omega), if_neg (by omega), if_neg (by omega), if_neg (by omega), if_pos (by omega)]
theorem oCount_5 {A : Al} {w : Int} (h : 8 ≤ w ∧ w ≤ 11) : oCount A w = gpC 0 (A.2.2.2.1 (w - 8)).1.1 := by
  unfold oCount
  rw [if_neg (by omega), if_neg (by omega), if_neg (by omega), if_neg (by omega), if_neg (by omega), if_pos (by omega)]
theorem oCount_6 {A : Al} {w : Int} (h : w = 12) : oCount A w = tOn A.2.2.1 0 + tOn A.2.2.1 1 + tOn A.2.2.1 2 := by
  unfold oCount
  rw [if_neg (by omega), if_neg (by omega), if_neg (by omega), if_neg (by omega), if_neg (by omega), if_neg (by omega), if_pos (by omega)]
theorem oCount_7 {A : Al} {w : Int} (h : 13 ≤ w ∧ w ≤ 16) : oCount A w = ((A.2.2.2.1 (w - 13)).2.1.length : Int) := by
  unfold oCount
  rw [if_neg (by omega), if_neg (by omega), if_neg (by omega), if_neg (by omega), if_neg (by omega), if_neg (by omega), if_neg (by omega), if_pos (by omega)]
theorem oCount_8 {A : Al} {w : Int} (h : w = 17) : oCount A w = A.2.1.1 := by
  unfold oCount
  rw [if_neg (by omega), if_neg (by omega), if_neg (by omega), if_neg (by omega), if_neg (by omega), if_neg (by omega), if_neg (by omega), if_neg (by omega), if_pos (by omega)]
theorem oCount_9 {A : Al} {w : Int} (h : 18 ≤ w ∧ w ≤ 21) : oCount A w = (A.2.2.2.1 (w - 18)).1.2 + 100 := by
  unfold oCount
  rw [if_neg (by omega), if_neg (by omega), if_neg (by omega), if_neg (by omega), if_neg (by omega), if_neg (by omega), if_neg (by omega), if_neg (by omega), if_neg (by omega), if_pos (by omega)]
theorem c_count {d : Nat} {w : Int} {u : aS} {Q : aQ} {A : Al} (hA : mA u A) (hZ : vSz A.1) (hF : vSf A.1) (hV : vTr A.2.2.2.1) (hN : vTN A.2.2.2.1) (hQ : vQN A.1 A.2.2.2.1) (h : Q (some (vI (oCount A w))) u) : wpm (d + 6) M_X8_count [vR 139, vI w] u Q := by
  have hS := hA.1
  refine e_X8_count rfl (run [] 100 ?_)
  refine c_in (fun w0 w1 => ?_) (fun w0 => ?_)
  · refine z_bq (fun a0 => ?_) (fun a0 => ?_)
    · rw [oCount_0 a0] at h
      repeat first
        | refine z_gq (by first | omega | (simp [hI_sI, hI_sF, hI_sR, hI_nw, hI_ff, hI_fl, hI_cp]; try omega)) ?_
        | refine z_iq rfl (by first | omega | (simp [hI_sI, hI_sF, hI_sR, hI_nw, hI_ff, hI_fl, hI_cp]; try omega)) (by first | omega | (simp [hI_sI, hI_sF, hI_sR, hI_nw, hI_ff, hI_fl, hI_cp]; try omega)) ?_
        | refine z_dq (mS.now hS) ?_
        | refine z_dq (mS.floats hS) ?_
        | refine z_dq (mS.sizes hS) ?_
        | refine z_dq (mS.shut hS) ?_
        | refine z_dq (mS.past hS) ?_
        | refine z_dq (mS.deeds hS) ?_
        | refine z_dq (mS.images hS) ?_
        | refine z_dq (mS.imageShut hS) ?_
        | refine z_dq (mS.kept hS) ?_
        | refine z_dq (mS.owner hS) ?_
        | refine z_dq (mS.old hS) ?_
        | refine z_dq (mS.letters hS) ?_
        | refine z_dq (mS.toldSizes hS) ?_
        | refine z_dq (mS.sort hS) ?_
        | refine z_dq (mS.room hS) ?_
        | refine z_dq (mS.things hS) ?_
      exact q_eq h hA.2.1.1
    · refine z_bq (fun a1 => ?_) (fun a1 => ?_)
      · rw [oCount_1 (by omega)] at h
        repeat first
          | refine z_gq (by first | omega | (simp [hI_sI, hI_sF, hI_sR, hI_nw, hI_ff, hI_fl, hI_cp]; try omega)) ?_
          | refine z_iq rfl (by first | omega | (simp [hI_sI, hI_sF, hI_sR, hI_nw, hI_ff, hI_fl, hI_cp]; try omega)) (by first | omega | (simp [hI_sI, hI_sF, hI_sR, hI_nw, hI_ff, hI_fl, hI_cp]; try omega)) ?_
          | refine z_dq (mS.now hS) ?_
          | refine z_dq (mS.floats hS) ?_
          | refine z_dq (mS.sizes hS) ?_
          | refine z_dq (mS.shut hS) ?_
          | refine z_dq (mS.past hS) ?_
          | refine z_dq (mS.deeds hS) ?_
          | refine z_dq (mS.images hS) ?_
          | refine z_dq (mS.imageShut hS) ?_
          | refine z_dq (mS.kept hS) ?_
          | refine z_dq (mS.owner hS) ?_
          | refine z_dq (mS.old hS) ?_
          | refine z_dq (mS.letters hS) ?_
          | refine z_dq (mS.toldSizes hS) ?_
          | refine z_dq (mS.sort hS) ?_
          | refine z_dq (mS.room hS) ?_
          | refine z_dq (mS.things hS) ?_
        refine c_many hS (by omega) ?_
        exact q_eq h (hA.2.2.2.2.1 (w - 1) (by omega) (by omega)).1.1
      · refine z_bq (fun a2 => ?_) (fun a2 => ?_)
        · rw [oCount_2 a2] at h
          have g0 := (hA.2.2.2.2.1 0 (by omega) (by omega)).2.1
          have g1 := (hA.2.2.2.2.1 1 (by omega) (by omega)).2.1
          have g2 := (hA.2.2.2.2.1 2 (by omega) (by omega)).2.1
          have g3 := (hA.2.2.2.2.1 3 (by omega) (by omega)).2.1
          have v0 := (hV 0 (by omega) (by omega)).2.2
          have v1 := (hV 1 (by omega) (by omega)).2.2
          have v2 := (hV 2 (by omega) (by omega)).2.2
          have v3 := (hV 3 (by omega) (by omega)).2.2
          repeat first
            | refine z_gq (by first | omega | (simp [hI_sI, hI_sF, hI_sR, hI_nw, hI_ff, hI_fl, hI_cp]; try omega)) ?_
            | refine z_iq rfl (by first | omega | (simp [hI_sI, hI_sF, hI_sR, hI_nw, hI_ff, hI_fl, hI_cp]; try omega)) (by first | omega | (simp [hI_sI, hI_sF, hI_sR, hI_nw, hI_ff, hI_fl, hI_cp]; try omega)) ?_
            | refine z_dq (mS.shut hS) ?_
          refine q_eq h ?_
          unfold sbs
          omega
        · refine z_bq (fun a3 => ?_) (fun a3 => ?_)
          · refine z_bq (fun a4 => ?_) (fun a4 => ?_)
            · rw [oCount_3 a4] at h
              refine c_loudest hA hZ hF hN hQ ?_
              exact h
            · rw [oCount_4 (by omega)] at h
              refine c_silent hA hZ hF hN hQ ?_
              exact h
          · refine z_bq (fun a5 => ?_) (fun a5 => ?_)
            · rw [oCount_5 (by omega)] at h
              repeat first
                | refine z_gq (by first | omega | (simp [hI_sI, hI_sF, hI_sR, hI_nw, hI_ff, hI_fl, hI_cp]; try omega)) ?_
                | refine z_iq rfl (by first | omega | (simp [hI_sI, hI_sF, hI_sR, hI_nw, hI_ff, hI_fl, hI_cp]; try omega)) (by first | omega | (simp [hI_sI, hI_sF, hI_sR, hI_nw, hI_ff, hI_fl, hI_cp]; try omega)) ?_
                | refine z_dq (mS.now hS) ?_
                | refine z_dq (mS.floats hS) ?_
                | refine z_dq (mS.sizes hS) ?_
                | refine z_dq (mS.shut hS) ?_
                | refine z_dq (mS.past hS) ?_
                | refine z_dq (mS.deeds hS) ?_
                | refine z_dq (mS.images hS) ?_
                | refine z_dq (mS.imageShut hS) ?_
                | refine z_dq (mS.kept hS) ?_
                | refine z_dq (mS.owner hS) ?_
                | refine z_dq (mS.old hS) ?_
                | refine z_dq (mS.letters hS) ?_
                | refine z_dq (mS.toldSizes hS) ?_
                | refine z_dq (mS.sort hS) ?_
                | refine z_dq (mS.room hS) ?_
                | refine z_dq (mS.things hS) ?_
              refine c_gaps hS (by omega) (hA.2.2.2.2.1 (w - 8) (by omega) (by omega)).1 (hV.now (by omega) (by omega)).1 ?_
              exact h
            · refine z_bq (fun a6 => ?_) (fun a6 => ?_)
              · rw [oCount_6 a6] at h
                have hK := hA.2.2.2.1
                have te : ∀ k, 0 ≤ k → k ≤ 2 → tOn (hI u 153, hI u 154, hI u 155) k = tOn A.2.2.1 k := fun k k0 k1 => tOn_e (hK.1 k k0 k1).1 (hK.1 k k0 k1).2 (fun i i0 i1 => hK.2 _ (by omega) (by omega))
                have b0 := tOn_b A.2.2.1 0
                have b1 := tOn_b A.2.2.1 1
                have b2 := tOn_b A.2.2.1 2
                refine c_thingsOn hS (by omega) ?_
                rw [te 0 (by omega) (by omega)]
                refine c_thingsOn hS (by omega) ?_
                rw [te 1 (by omega) (by omega)]
                repeat first
                  | refine z_gq (by first | omega | (simp [hI_sI, hI_sF, hI_sR, hI_nw, hI_ff, hI_fl, hI_cp]; try omega)) ?_
                  | refine z_iq rfl (by first | omega | (simp [hI_sI, hI_sF, hI_sR, hI_nw, hI_ff, hI_fl, hI_cp]; try omega)) (by first | omega | (simp [hI_sI, hI_sF, hI_sR, hI_nw, hI_ff, hI_fl, hI_cp]; try omega)) ?_
                  | refine z_dq (mS.now hS) ?_
                  | refine z_dq (mS.floats hS) ?_
                  | refine z_dq (mS.sizes hS) ?_
                  | refine z_dq (mS.shut hS) ?_
                  | refine z_dq (mS.past hS) ?_
                  | refine z_dq (mS.deeds hS) ?_
                  | refine z_dq (mS.images hS) ?_
                  | refine z_dq (mS.imageShut hS) ?_
                  | refine z_dq (mS.kept hS) ?_
                  | refine z_dq (mS.owner hS) ?_
                  | refine z_dq (mS.old hS) ?_
                  | refine z_dq (mS.letters hS) ?_
                  | refine z_dq (mS.toldSizes hS) ?_
                  | refine z_dq (mS.sort hS) ?_
                  | refine z_dq (mS.room hS) ?_
                  | refine z_dq (mS.things hS) ?_
                refine c_thingsOn hS (by omega) ?_
                rw [te 2 (by omega) (by omega)]
                repeat first
                  | refine z_gq (by first | omega | (simp [hI_sI, hI_sF, hI_sR, hI_nw, hI_ff, hI_fl, hI_cp]; try omega)) ?_
                  | refine z_iq rfl (by first | omega | (simp [hI_sI, hI_sF, hI_sR, hI_nw, hI_ff, hI_fl, hI_cp]; try omega)) (by first | omega | (simp [hI_sI, hI_sF, hI_sR, hI_nw, hI_ff, hI_fl, hI_cp]; try omega)) ?_
                  | refine z_dq (mS.now hS) ?_
                  | refine z_dq (mS.floats hS) ?_
                  | refine z_dq (mS.sizes hS) ?_
                  | refine z_dq (mS.shut hS) ?_
                  | refine z_dq (mS.past hS) ?_
                  | refine z_dq (mS.deeds hS) ?_
                  | refine z_dq (mS.images hS) ?_
                  | refine z_dq (mS.imageShut hS) ?_
                  | refine z_dq (mS.kept hS) ?_
                  | refine z_dq (mS.owner hS) ?_
                  | refine z_dq (mS.old hS) ?_
                  | refine z_dq (mS.letters hS) ?_
                  | refine z_dq (mS.toldSizes hS) ?_
                  | refine z_dq (mS.sort hS) ?_
                  | refine z_dq (mS.room hS) ?_
                  | refine z_dq (mS.things hS) ?_
                exact h
              · refine z_bq (fun a7 => ?_) (fun a7 => ?_)
                · rw [oCount_7 (by omega)] at h
                  repeat first
                    | refine z_gq (by first | omega | (simp [hI_sI, hI_sF, hI_sR, hI_nw, hI_ff, hI_fl, hI_cp]; try omega)) ?_
                    | refine z_iq rfl (by first | omega | (simp [hI_sI, hI_sF, hI_sR, hI_nw, hI_ff, hI_fl, hI_cp]; try omega)) (by first | omega | (simp [hI_sI, hI_sF, hI_sR, hI_nw, hI_ff, hI_fl, hI_cp]; try omega)) ?_
                    | refine z_dq (mS.deeds hS) ?_
                  exact q_eq h (hA.2.2.2.2.1 (w - 13) (by omega) (by omega)).2.2.1
                · refine z_bq (fun a8 => ?_) (fun a8 => ?_)
                  · rw [oCount_8 a8] at h
                    repeat first
                      | refine z_gq (by first | omega | (simp [hI_sI, hI_sF, hI_sR, hI_nw, hI_ff, hI_fl, hI_cp]; try omega)) ?_
                      | refine z_iq rfl (by first | omega | (simp [hI_sI, hI_sF, hI_sR, hI_nw, hI_ff, hI_fl, hI_cp]; try omega)) (by first | omega | (simp [hI_sI, hI_sF, hI_sR, hI_nw, hI_ff, hI_fl, hI_cp]; try omega)) ?_
                      | refine z_dq (mS.now hS) ?_
                      | refine z_dq (mS.floats hS) ?_
                      | refine z_dq (mS.sizes hS) ?_
                      | refine z_dq (mS.shut hS) ?_
                      | refine z_dq (mS.past hS) ?_
                      | refine z_dq (mS.deeds hS) ?_
                      | refine z_dq (mS.images hS) ?_
                      | refine z_dq (mS.imageShut hS) ?_
                      | refine z_dq (mS.kept hS) ?_
                      | refine z_dq (mS.owner hS) ?_
                      | refine z_dq (mS.old hS) ?_
                      | refine z_dq (mS.letters hS) ?_
                      | refine z_dq (mS.toldSizes hS) ?_
                      | refine z_dq (mS.sort hS) ?_
                      | refine z_dq (mS.room hS) ?_
                      | refine z_dq (mS.things hS) ?_
                    exact q_eq h hA.2.2.1.1
                  · rw [oCount_9 (by omega)] at h
                    have e : hI u 142 (86 * (w - 18) + 85) = (A.2.2.2.1 (w - 18)).1.2 := (hA.2.2.2.2.1 (w - 18) (by omega) (by omega)).1.2.1
                    have vs := (hV.now (k := w - 18) (by omega) (by omega)).2
                    repeat first
                      | refine z_gq (by first | omega | (simp [hI_sI, hI_sF, hI_sR, hI_nw, hI_ff, hI_fl, hI_cp]; try omega)) ?_
                      | refine z_iq rfl (by first | omega | (simp [hI_sI, hI_sF, hI_sR, hI_nw, hI_ff, hI_fl, hI_cp]; try omega)) (by first | omega | (simp [hI_sI, hI_sF, hI_sR, hI_nw, hI_ff, hI_fl, hI_cp]; try omega)) ?_
                      | refine z_dq (mS.now hS) ?_
                    rw [e]
                    exact h
  · rw [oCount_o w0] at h
    exact h
theorem k_count {d : Nat} {w : Int} {u : aS} {Q : aQ} {A : Al} (hA : cA u A) (hZ : vSz A.1) (hF : vSf A.1) (hR : vRk A.2.2.1) (hV : vTr A.2.2.2.1) (hN : vTN A.2.2.2.1) (hQ : vQN A.1 A.2.2.2.1) (h : Q (some (vI (oCount A w))) u) : wpm (d + 7) M_X7_count [vR 8, vI w] u Q := by
  have hS := hA.1
  refine e_X7_count rfl (run [] 100 ?_)
  refine k_within (fun w0 w1 => ?_) (fun w0 => ?_)
  · rw [oCount_1 (by omega)] at h
    obtain ⟨a0, r0, tp, c0⟩ := k_nowcount hA (k := w - 1) (by omega) (by omega)
    have kB := (isB_k (k := w - 1) (by omega) (by omega)).k0
    repeat first
      | refine z_gq (by first | omega | (simp [hI_sI, hI_sF, hI_sR, hI_nw, hI_ff, hI_fl, hI_cp]; try omega)) ?_
      | refine z_iq rfl (by first | omega | (simp [hI_sI, hI_sF, hI_sR, hI_nw, hI_ff, hI_fl, hI_cp]; try omega)) (by first | omega | (simp [hI_sI, hI_sF, hI_sR, hI_nw, hI_ff, hI_fl, hI_cp]; try omega)) ?_
      | refine z_dq (hS.tracks) ?_
      | refine z_dq (hS.track (s := w - 1) (by omega) (by omega)) ?_
      | refine z_kq (kB) ?_
      | refine z_dq (r0) ?_
      | refine z_kq (tp.1) ?_
    exact q_eq h c0.2.1
  · refine k_within (fun x0 x1 => ?_) (fun x0 => ?_)
    · rw [oCount_5 (by omega)] at h
      obtain ⟨a0, r0, tp, c0⟩ := k_nowcount hA (k := w - 8) (by omega) (by omega)
      have kB := (isB_k (k := w - 8) (by omega) (by omega)).k0
      repeat first
        | refine z_gq (by first | omega | (simp [hI_sI, hI_sF, hI_sR, hI_nw, hI_ff, hI_fl, hI_cp]; try omega)) ?_
        | refine z_iq rfl (by first | omega | (simp [hI_sI, hI_sF, hI_sR, hI_nw, hI_ff, hI_fl, hI_cp]; try omega)) (by first | omega | (simp [hI_sI, hI_sF, hI_sR, hI_nw, hI_ff, hI_fl, hI_cp]; try omega)) ?_
        | refine z_dq (hS.tracks) ?_
        | refine z_dq (hS.track (s := w - 8) (by omega) (by omega)) ?_
        | refine z_kq (kB) ?_
        | refine z_dq (r0) ?_
        | refine z_kq (tp.1) ?_
      refine k_gaps tp c0 (hV.now (by omega) (by omega)).1 ?_
      exact h
    · refine k_within (fun y0 y1 => ?_) (fun y0 => ?_)
      · rw [oCount_7 (by omega)] at h
        obtain ⟨a0, a1, p0, p1, p2, p3, hW⟩ := hA.2.2.2.2.2.1 (w - 13) (by omega) (by omega)
        have kB := (isB_k (k := w - 13) (by omega) (by omega)).k0
        repeat first
          | refine z_gq (by first | omega | (simp [hI_sI, hI_sF, hI_sR, hI_nw, hI_ff, hI_fl, hI_cp]; try omega)) ?_
          | refine z_iq rfl (by first | omega | (simp [hI_sI, hI_sF, hI_sR, hI_nw, hI_ff, hI_fl, hI_cp]; try omega)) (by first | omega | (simp [hI_sI, hI_sF, hI_sR, hI_nw, hI_ff, hI_fl, hI_cp]; try omega)) ?_
          | refine z_dq (hS.tracks) ?_
          | refine z_dq (hS.track (s := w - 13) (by omega) (by omega)) ?_
          | refine z_kq (kB) ?_
        exact q_eq h hW.2.2.2.1
      · refine k_within (fun z0 z1 => ?_) (fun z0 => ?_)
        · rw [oCount_9 (by omega)] at h
          obtain ⟨a0, r0, tp, c0⟩ := k_nowcount hA (k := w - 18) (by omega) (by omega)
          have kB := (isB_k (k := w - 18) (by omega) (by omega)).k0
          have e : hI u a0 2 = (A.2.2.2.1 (w - 18)).1.2 := c0.2.2.1
          have vs := (hV.now (k := w - 18) (by omega) (by omega)).2
          repeat first
            | refine z_gq (by first | omega | (simp [hI_sI, hI_sF, hI_sR, hI_nw, hI_ff, hI_fl, hI_cp]; try omega)) ?_
            | refine z_iq rfl (by first | omega | (simp [hI_sI, hI_sF, hI_sR, hI_nw, hI_ff, hI_fl, hI_cp]; try omega)) (by first | omega | (simp [hI_sI, hI_sF, hI_sR, hI_nw, hI_ff, hI_fl, hI_cp]; try omega)) ?_
            | refine z_dq (hS.tracks) ?_
            | refine z_dq (hS.track (s := w - 18) (by omega) (by omega)) ?_
            | refine z_kq (kB) ?_
            | refine z_dq (r0) ?_
            | refine z_kq (tp.1) ?_
          rw [e]
          exact h
        · refine z_bq (fun s0 => ?_) (fun s0 => ?_)
          · rw [oCount_0 s0] at h
            repeat first
              | refine z_gq (by first | omega | (simp [hI_sI, hI_sF, hI_sR, hI_nw, hI_ff, hI_fl, hI_cp]; try omega)) ?_
              | refine z_iq rfl (by first | omega | (simp [hI_sI, hI_sF, hI_sR, hI_nw, hI_ff, hI_fl, hI_cp]; try omega)) (by first | omega | (simp [hI_sI, hI_sF, hI_sR, hI_nw, hI_ff, hI_fl, hI_cp]; try omega)) ?_
              | refine z_dq (hS.sounds) ?_
            exact q_eq h hA.2.2.1.1
          · refine z_bq (fun s1 => ?_) (fun s1 => ?_)
            · omega
            · refine z_bq (fun s2 => ?_) (fun s2 => ?_)
              · omega
              · refine z_bq (fun s3 => ?_) (fun s3 => ?_)
                · omega
                · refine z_bq (fun s4 => ?_) (fun s4 => ?_)
                  · omega
                  · refine z_bq (fun s5 => ?_) (fun s5 => ?_)
                    · rw [oCount_2 s5] at h
                      refine k_shutBits hA hV ?_
                      exact h
                    · refine z_bq (fun s6 => ?_) (fun s6 => ?_)
                      · rw [oCount_3 s6] at h
                        refine k_loudest hA hZ hF hN hQ ?_
                        exact h
                      · refine z_bq (fun s7 => ?_) (fun s7 => ?_)
                        · rw [oCount_4 s7] at h
                          refine k_silent hA hZ hF hN hQ ?_
                          exact h
                        · refine z_bq (fun s8 => ?_) (fun s8 => ?_)
                          · omega
                          · refine z_bq (fun s9 => ?_) (fun s9 => ?_)
                            · omega
                            · refine z_bq (fun s10 => ?_) (fun s10 => ?_)
                              · omega
                              · refine z_bq (fun s11 => ?_) (fun s11 => ?_)
                                · omega
                                · refine z_bq (fun s12 => ?_) (fun s12 => ?_)
                                  · rw [oCount_6 s12] at h
                                    refine k_thingsOnRacks hA hR ?_
                                    exact h
                                  · refine z_bq (fun s13 => ?_) (fun s13 => ?_)
                                    · omega
                                    · refine z_bq (fun s14 => ?_) (fun s14 => ?_)
                                      · omega
                                      · refine z_bq (fun s15 => ?_) (fun s15 => ?_)
                                        · omega
                                        · refine z_bq (fun s16 => ?_) (fun s16 => ?_)
                                          · omega
                                          · refine z_bq (fun s17 => ?_) (fun s17 => ?_)
                                            · rw [oCount_8 s17] at h
                                              repeat first
                                                | refine z_gq (by first | omega | (simp [hI_sI, hI_sF, hI_sR, hI_nw, hI_ff, hI_fl, hI_cp]; try omega)) ?_
                                                | refine z_iq rfl (by first | omega | (simp [hI_sI, hI_sF, hI_sR, hI_nw, hI_ff, hI_fl, hI_cp]; try omega)) (by first | omega | (simp [hI_sI, hI_sF, hI_sR, hI_nw, hI_ff, hI_fl, hI_cp]; try omega)) ?_
                                                | refine z_dq (hS.text) ?_
                                              exact q_eq h hA.2.2.2.1.1
                                            · rw [oCount_o (by omega)] at h
                                              exact h
