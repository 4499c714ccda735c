/-! tracks: the model lays runs, notes what was -/
theorem w_laysE {d : Nat} {Q : aQ} {k t n x E : Int} (hx : 0 ≤ x) (hE : E ≤ 128) {u : aS} (hS : mS u) {c s : Nat} {w6 w7 : aV} (h2 : ∀ z, x < z → z < E → hI u 149 z = hI u 149 x ∧ bgb (hI u 149) t z = false) (h3 : E < 128 → hI u 149 E = hI u 149 x → bgb (hI u 149) t E = true) (h : wp (wpm (d + 1)) cd_X8_lays Q 70 [vR 139, vI k, vI t, vI n, vI x, vI E, w6, w7] [] u c s) : ∀ (m : Nat) (y : Int), y + m = E → x < y → wp (wpm (d + 1)) cd_X8_lays Q 29 [vR 139, vI k, vI t, vI n, vI x, vI y, w6, w7] [] u c s
  | 0, y, h0, h1 => by
    have e : y = E := by omega
    subst e
    refine run [(29, []), (70, [])] 60 ?_
    refine z_bq (fun hl => ?_) (fun hl => ?_)
    · repeat first
        | refine z_gq (by first | omega | (simp [hI_sI, hI_sF, hI_sR, hI_nw, hI_ff, hI_fl, hI_cp]; try omega)) ?_
        | refine z_iq rfl (by first | omega | (simp [hI_sI, hI_sF, hI_sR, hI_nw, hI_ff, hI_fl, hI_cp]; try omega)) (by first | omega | (simp [hI_sI, hI_sF, hI_sR, hI_nw, hI_ff, hI_fl, hI_cp]; try omega)) ?_
        | refine z_dq (mS.owner hS) ?_
      refine z_bq (fun hy => ?_) (fun hy => ?_)
      · refine c_begins hS (by omega) (fun hb => ?_) (fun hb => ?_)
        · exact h
        · rw [h3 hl hy] at hb
          cases hb
      · exact h
    · exact h
  | m + 1, y, h0, h1 => by
    have g := h2 y h1 (by omega)
    refine run [(29, []), (70, [])] 60 ?_
    refine z_bq (fun hl => ?_) (fun hl => by omega)
    repeat first
      | refine z_gq (by first | omega | (simp [hI_sI, hI_sF, hI_sR, hI_nw, hI_ff, hI_fl, hI_cp]; try omega)) ?_
      | refine z_iq rfl (by first | omega | (simp [hI_sI, hI_sF, hI_sR, hI_nw, hI_ff, hI_fl, hI_cp]; try omega)) (by first | omega | (simp [hI_sI, hI_sF, hI_sR, hI_nw, hI_ff, hI_fl, hI_cp]; try omega)) ?_
      | refine z_dq (mS.owner hS) ?_
    refine z_bq (fun hy => ?_) (fun hy => absurd g.1 hy)
    refine c_begins hS (by omega) (fun hb => ?_) (fun hb => ?_)
    · rw [g.2] at hb
      cases hb
    · repeat first
        | refine z_gq (by first | omega | (simp [hI_sI, hI_sF, hI_sR, hI_nw, hI_ff, hI_fl, hI_cp]; try omega)) ?_
        | refine z_iq rfl (by first | omega | (simp [hI_sI, hI_sF, hI_sR, hI_nw, hI_ff, hI_fl, hI_cp]; try omega)) (by first | omega | (simp [hI_sI, hI_sF, hI_sR, hI_nw, hI_ff, hI_fl, hI_cp]; try omega)) ?_
        | refine z_dq (mS.now hS) ?_
        | refine z_dq (mS.floats hS) ?_
        | refine z_dq (mS.sizes hS) ?_
        | refine z_dq (mS.shut hS) ?_
        | refine z_dq (mS.past hS) ?_
        | refine z_dq (mS.deeds hS) ?_
        | refine z_dq (mS.images hS) ?_
        | refine z_dq (mS.imageShut hS) ?_
        | refine z_dq (mS.kept hS) ?_
        | refine z_dq (mS.owner hS) ?_
        | refine z_dq (mS.old hS) ?_
        | refine z_dq (mS.letters hS) ?_
        | refine z_dq (mS.toldSizes hS) ?_
        | refine z_dq (mS.sort hS) ?_
        | refine z_dq (mS.room hS) ?_
        | refine z_dq (mS.things hS) ?_
      exact w_laysE hx hE hS h2 h3 h m (y + 1) (by omega) (by omega)
theorem rd7 {u : aS} {k n a0 a1 a2 a3 a4 a5 a6 w : Int} (w0 : 0 ≤ w) (w1 : w ≤ 6) : hI (sI (sI (sI (sI (sI (sI (sI u 142 (86 * k + 7 * n + 0) a0) 142 (86 * k + 7 * n + 1) a1) 142 (86 * k + 7 * n + 2) a2) 142 (86 * k + 7 * n + 3) a3) 142 (86 * k + 7 * n + 4) a4) 142 (86 * k + 7 * n + 5) a5) 142 (86 * k + 7 * n + 6) a6) 142 (86 * k + (7 * (n + ((0 : Nat) : Int)) + w)) = if w = 6 then a6 else if w = 5 then a5 else if w = 4 then a4 else if w = 3 then a3 else if w = 2 then a2 else if w = 1 then a1 else a0 := by
  rw [hI_sI, hI_sI, hI_sI, hI_sI, hI_sI, hI_sI, hI_sI]
  by_cases c6 : w = 6
  · rw [if_pos (by omega), if_pos c6]
  · rw [if_neg (by omega), if_neg c6]
    by_cases c5 : w = 5
    · rw [if_pos (by omega), if_pos c5]
    · rw [if_neg (by omega), if_neg c5]
      by_cases c4 : w = 4
      · rw [if_pos (by omega), if_pos c4]
      · rw [if_neg (by omega), if_neg c4]
        by_cases c3 : w = 3
        · rw [if_pos (by omega), if_pos c3]
        · rw [if_neg (by omega), if_neg c3]
          by_cases c2 : w = 2
          · rw [if_pos (by omega), if_pos c2]
          · rw [if_neg (by omega), if_neg c2]
            by_cases c1 : w = 1
            · rw [if_pos (by omega), if_pos c1]
            · rw [if_neg (by omega), if_neg c1, if_pos (by omega)]
theorem w_lays {d : Nat} {Q : aQ} {k t : Int} {R : List (Int × Sp)} {ow f : Int → Int} (hk : 0 ≤ k ∧ k ≤ 3) (hR : Rp ow t R) (hM : ∀ e, e ∈ R → Mq f e ∧ 0 ≤ e.1 ∧ e.1 ≤ 12) {c s : Nat} : ∀ (m : Nat) (x n : Int) (R2 : List (Int × Sp)) (u : aS) (w5 w6 w7 : aV), mS u → hI u 149 = ow → hI u 150 = f → x + m = 128 → 0 ≤ x → 0 ≤ n → n + R2.length ≤ 12 → RS x R2 → (∀ e, e ∈ R2 → e ∈ R) → (∀ e, e ∈ R → x ≤ q3 e.2 → e ∈ R2) → (∀ u', fA (fun a => a = 142) u u' → nx u' = nx u → (∀ j, ¬ (86 * k + 7 * n ≤ j ∧ j < 86 * k + 85) → hI u' 142 j = hI u 142 j) → hI u' 142 (86 * k + 84) = n + R2.length → (∀ (i : Nat) (e : Int × Sp), R2[i]? = some e → Fw (fun q => hI u' 142 (86 * k + q)) (n + i) e.2) → Q none u') → wp (wpm (d + 1)) cd_X8_lays Q 5 [vR 139, vI k, vI t, vI n, vI x, w5, w6, w7] [] u c s
  | 0, x, n, R2, u, w5, w6, w7, hS, ho, hf, h1, h2, h3, h4, h5, h6, h7, h => by
    have e : R2 = [] := by
      cases R2 with
      | nil => rfl
      | cons e r =>
        have := (RS_c h5).1
        unfold qe at this
        omega
    subst e
    simp at h4
    refine run [(5, []), (29, [])] 60 ?_
    refine z_bq (fun hl => ?_) (fun hl => ?_)
    · omega
    · repeat first
        | refine z_gq (by first | omega | (simp [hI_sI, hI_sF, hI_sR, hI_nw, hI_ff, hI_fl, hI_cp]; try omega)) ?_
        | refine z_iq rfl (by first | omega | (simp [hI_sI, hI_sF, hI_sR, hI_nw, hI_ff, hI_fl, hI_cp]; try omega)) (by first | omega | (simp [hI_sI, hI_sF, hI_sR, hI_nw, hI_ff, hI_fl, hI_cp]; try omega)) ?_
        | refine z_dq (mS.now hS) ?_
      refine h _ (fA_sI u _ _ rfl) rfl (fun j hj => ?_) ?_ (fun i e he => ?_)
      · rw [hI_sI, if_neg (by omega)]
      · rw [hI_sI, if_pos ⟨rfl, rfl⟩]
        simp
      · simp at he
  | m + 1, x, n, R2, u, w5, w6, w7, hS, ho, hf, h1, h2, h3, h4, h5, h6, h7, h => by
    have hb0 := Rp_b hR h2 (show x < 128 by omega)
    refine run [(5, []), (29, [])] 60 ?_
    refine z_bq (fun hl => ?_) (fun hl => by omega)
    refine c_begins hS (by omega) (fun hb => ?_) (fun hb => ?_)
    · rw [ho] at hb
      obtain ⟨e, m1, m2⟩ := hb0.mp hb
      have m3 := h7 e m1 (by omega)
      cases R2 with
      | nil => simp at m3
      | cons e' r =>
        have hc := RS_c h5
        have ee : e = e' := by
          rcases List.mem_cons.mp m3 with z | z
          · exact z
          · have := RS_ge hc.2 z
            have : qe e'.2 = q3 e'.2 + q2 e'.2 := rfl
            omega
        subst ee
        have eq : qe e.2 = q3 e.2 + q2 e.2 := rfl
        have eo : ow x = e.1 := Rp_o hR m1 (by omega) (by omega)
        have eo' : hI u 149 x = e.1 := by rw [ho, eo]
        obtain ⟨⟨p, F, vp, M0, M1, M4, M5, M6⟩, g1, g2⟩ := hM e m1
        simp at h4
        unfold vP at vp
        rw [← hf] at F
        unfold Fw at F
        have F0' : hI u 150 (7 * e.1 + 0) = q0 p := by
          rw [Int.add_zero]
          exact F.1
        obtain ⟨F0, F1, F2, F3, F4, F5, F6⟩ := F
        have key : ∀ a0 a1 a2 a3 a4 a5 a6 : Int, a0 = q0 e.2 → a1 = q1 e.2 → a2 = q2 e.2 → a3 = q3 e.2 → a4 = q4 e.2 → a5 = q5 e.2 → a6 = q6 e.2 → wp (wpm (d + 1)) cd_X8_lays Q 258 [vR 139, vI k, vI t, vI n, vI x, vI (qe e.2), vI (7 * e.1), vI (qe e.2 - x)] [] (sI (sI (sI (sI (sI (sI (sI u 142 (86 * k + 7 * n + 0) a0) 142 (86 * k + 7 * n + 1) a1) 142 (86 * k + 7 * n + 2) a2) 142 (86 * k + 7 * n + 3) a3) 142 (86 * k + 7 * n + 4) a4) 142 (86 * k + 7 * n + 5) a5) 142 (86 * k + 7 * n + 6) a6) c s := by
          intro a0 a1 a2 a3 a4 a5 a6 E0 E1 E2 E3 E4 E5 E6
          refine run [(5, [])] 60 ?_
          repeat first
            | refine z_gq (by first | omega | (simp [hI_sI, hI_sF, hI_sR, hI_nw, hI_ff, hI_fl, hI_cp]; try omega)) ?_
            | refine z_iq rfl (by first | omega | (simp [hI_sI, hI_sF, hI_sR, hI_nw, hI_ff, hI_fl, hI_cp]; try omega)) (by first | omega | (simp [hI_sI, hI_sF, hI_sR, hI_nw, hI_ff, hI_fl, hI_cp]; try omega)) ?_
            | refine z_dq (mS.now hS) ?_
            | refine z_dq (mS.floats hS) ?_
            | refine z_dq (mS.sizes hS) ?_
            | refine z_dq (mS.shut hS) ?_
            | refine z_dq (mS.past hS) ?_
            | refine z_dq (mS.deeds hS) ?_
            | refine z_dq (mS.images hS) ?_
            | refine z_dq (mS.imageShut hS) ?_
            | refine z_dq (mS.kept hS) ?_
            | refine z_dq (mS.owner hS) ?_
            | refine z_dq (mS.old hS) ?_
            | refine z_dq (mS.letters hS) ?_
            | refine z_dq (mS.toldSizes hS) ?_
            | refine z_dq (mS.sort hS) ?_
            | refine z_dq (mS.room hS) ?_
            | refine z_dq (mS.things hS) ?_
          refine w_lays hk hR hM m (x + 1) (n + 1) r _ _ _ _ hS ho hf (by omega) (by omega) (by omega) (by omega) (RS_mono (by omega) hc.2) (fun f hf => h6 f (List.mem_cons_of_mem _ hf)) (fun f hf hq => ?_) (fun u' m1 m2 m3 m4 m5 => ?_)
          · rcases List.mem_cons.mp (h7 f hf (by omega)) with z | z
            · subst z
              omega
            · exact z
          · refine h u' (fA_tr (fA_sI u _ _ rfl) (fA_tr (fA_sI _ _ _ rfl) (fA_tr (fA_sI _ _ _ rfl) (fA_tr (fA_sI _ _ _ rfl) (fA_tr (fA_sI _ _ _ rfl) (fA_tr (fA_sI _ _ _ rfl) (fA_tr (fA_sI _ _ _ rfl) m1))))))) m2 (fun j hj => ?_) ?_ (fun i f hi => ?_)
            · rw [m3 j (by omega), hI_sI, if_neg (by omega), hI_sI, if_neg (by omega), hI_sI, if_neg (by omega), hI_sI, if_neg (by omega), hI_sI, if_neg (by omega), hI_sI, if_neg (by omega), hI_sI, if_neg (by omega)]
            · rw [m4]
              simp
              omega
            · cases i with
              | zero =>
                simp at hi
                subst hi
                have rd : ∀ w : Int, 0 ≤ w → w ≤ 6 → hI u' 142 (86 * k + (7 * (n + ((0 : Nat) : Int)) + w)) = if w = 6 then a6 else if w = 5 then a5 else if w = 4 then a4 else if w = 3 then a3 else if w = 2 then a2 else if w = 1 then a1 else a0 := by
                  intro w w0 w1
                  rw [m3 _ (by omega)]
                  exact rd7 w0 w1
                refine ⟨?_, ?_, ?_, ?_, ?_, ?_, ?_⟩
                · have := rd 0 (by omega) (by omega)
                  rw [Int.add_zero] at this
                  exact this.trans E0
                · exact (rd 1 (by omega) (by omega)).trans E1
                · exact (rd 2 (by omega) (by omega)).trans E2
                · exact (rd 3 (by omega) (by omega)).trans E3
                · exact (rd 4 (by omega) (by omega)).trans E4
                · exact (rd 5 (by omega) (by omega)).trans E5
                · exact (rd 6 (by omega) (by omega)).trans E6
              | succ i =>
                have := m5 i f (by simpa using hi)
                have e2 : n + 1 + (i : Int) = n + ((i + 1 : Nat) : Int) := by omega
                rw [e2] at this
                exact this
        repeat first
          | refine z_gq (by first | omega | (simp [hI_sI, hI_sF, hI_sR, hI_nw, hI_ff, hI_fl, hI_cp]; try omega)) ?_
          | refine z_iq rfl (by first | omega | (simp [hI_sI, hI_sF, hI_sR, hI_nw, hI_ff, hI_fl, hI_cp]; try omega)) (by first | omega | (simp [hI_sI, hI_sF, hI_sR, hI_nw, hI_ff, hI_fl, hI_cp]; try omega)) ?_
          | refine z_dq (mS.now hS) ?_
          | refine z_dq (mS.floats hS) ?_
          | refine z_dq (mS.sizes hS) ?_
          | refine z_dq (mS.shut hS) ?_
          | refine z_dq (mS.past hS) ?_
          | refine z_dq (mS.deeds hS) ?_
          | refine z_dq (mS.images hS) ?_
          | refine z_dq (mS.imageShut hS) ?_
          | refine z_dq (mS.kept hS) ?_
          | refine z_dq (mS.owner hS) ?_
          | refine z_dq (mS.old hS) ?_
          | refine z_dq (mS.letters hS) ?_
          | refine z_dq (mS.toldSizes hS) ?_
          | refine z_dq (mS.sort hS) ?_
          | refine z_dq (mS.room hS) ?_
          | refine z_dq (mS.things hS) ?_
        refine w_laysE (E := qe e.2) h2 (by omega) hS (fun z z0 z1 => ?_) (fun z z1 => ?_) ?_ (q2 e.2 - 1).toNat (x + 1) (by omega) (by omega)
        · have := Rp_i hR m1 (y := z) (by omega) z1
          rw [ho, this.1, eo]
          exact ⟨rfl, this.2⟩
        · rw [ho] at z1 ⊢
          exact Rp_e hR m1 z (z1.trans eo)
        · refine run [(258, [])] 200 ?_
          repeat first
            | refine z_gq (by first | omega | (simp [hI_sI, hI_sF, hI_sR, hI_nw, hI_ff, hI_fl, hI_cp]; try omega)) ?_
            | refine z_iq rfl (by first | omega | (simp [hI_sI, hI_sF, hI_sR, hI_nw, hI_ff, hI_fl, hI_cp]; try omega)) (by first | omega | (simp [hI_sI, hI_sF, hI_sR, hI_nw, hI_ff, hI_fl, hI_cp]; try omega)) ?_
            | refine z_dq (mS.owner hS) ?_
          rw [eo']
          repeat first
            | refine z_gq (by first | omega | (simp [hI_sI, hI_sF, hI_sR, hI_nw, hI_ff, hI_fl, hI_cp]; try omega)) ?_
            | refine z_iq rfl (by first | omega | (simp [hI_sI, hI_sF, hI_sR, hI_nw, hI_ff, hI_fl, hI_cp]; try omega)) (by first | omega | (simp [hI_sI, hI_sF, hI_sR, hI_nw, hI_ff, hI_fl, hI_cp]; try omega)) ?_
            | refine z_dq (mS.owner hS) ?_
            | refine z_dq (mS.old hS) ?_
          have N0 : 0 ≤ n ∧ n ≤ 11 := by omega
          refine c_sets hS hk N0 (by omega) ?_
          repeat first
            | refine z_gq (by first | omega | (simp [hI_sI, hI_sF, hI_sR, hI_nw, hI_ff, hI_fl, hI_cp]; try omega)) ?_
            | refine z_iq rfl (by first | omega | (simp [hI_sI, hI_sF, hI_sR, hI_nw, hI_ff, hI_fl, hI_cp]; try omega)) (by first | omega | (simp [hI_sI, hI_sF, hI_sR, hI_nw, hI_ff, hI_fl, hI_cp]; try omega)) ?_
            | refine z_dq (mS.owner hS) ?_
            | refine z_dq (mS.old hS) ?_
          refine c_sets hS hk N0 (by omega) ?_
          repeat first
            | refine z_gq (by first | omega | (simp [hI_sI, hI_sF, hI_sR, hI_nw, hI_ff, hI_fl, hI_cp]; try omega)) ?_
            | refine z_iq rfl (by first | omega | (simp [hI_sI, hI_sF, hI_sR, hI_nw, hI_ff, hI_fl, hI_cp]; try omega)) (by first | omega | (simp [hI_sI, hI_sF, hI_sR, hI_nw, hI_ff, hI_fl, hI_cp]; try omega)) ?_
            | refine z_dq (mS.owner hS) ?_
            | refine z_dq (mS.old hS) ?_
          refine c_sets hS hk N0 (by omega) ?_
          repeat first
            | refine z_gq (by first | omega | (simp [hI_sI, hI_sF, hI_sR, hI_nw, hI_ff, hI_fl, hI_cp]; try omega)) ?_
            | refine z_iq rfl (by first | omega | (simp [hI_sI, hI_sF, hI_sR, hI_nw, hI_ff, hI_fl, hI_cp]; try omega)) (by first | omega | (simp [hI_sI, hI_sF, hI_sR, hI_nw, hI_ff, hI_fl, hI_cp]; try omega)) ?_
            | refine z_dq (mS.owner hS) ?_
            | refine z_dq (mS.old hS) ?_
          refine c_sets hS hk N0 (by omega) ?_
          repeat first
            | refine z_gq (by first | omega | (simp [hI_sI, hI_sF, hI_sR, hI_nw, hI_ff, hI_fl, hI_cp]; try omega)) ?_
            | refine z_iq rfl (by first | omega | (simp [hI_sI, hI_sF, hI_sR, hI_nw, hI_ff, hI_fl, hI_cp]; try omega)) (by first | omega | (simp [hI_sI, hI_sF, hI_sR, hI_nw, hI_ff, hI_fl, hI_cp]; try omega)) ?_
            | refine z_dq (mS.owner hS) ?_
            | refine z_dq (mS.old hS) ?_
          refine c_sets hS hk N0 (by omega) ?_
          repeat first
            | refine z_gq (by first | omega | (simp [hI_sI, hI_sF, hI_sR, hI_nw, hI_ff, hI_fl, hI_cp]; try omega)) ?_
            | refine z_iq rfl (by first | omega | (simp [hI_sI, hI_sF, hI_sR, hI_nw, hI_ff, hI_fl, hI_cp]; try omega)) (by first | omega | (simp [hI_sI, hI_sF, hI_sR, hI_nw, hI_ff, hI_fl, hI_cp]; try omega)) ?_
            | refine z_dq (mS.owner hS) ?_
            | refine z_dq (mS.old hS) ?_
          have A1 : hI u 150 (7 * e.1 + 1) + x - hI u 150 (7 * e.1 + 3) = q1 e.2 := by omega
          have A2 : qe e.2 - x = q2 e.2 := by omega
          have A4 : hI u 150 (7 * e.1 + 4) = q4 e.2 := by omega
          refine z_bq (fun hx => ?_) (fun hx => ?_)
          · have hx' : x = hI u 150 (7 * e.1 + 3) := hx
            have A5 : min (hI u 150 (7 * e.1 + 5)) (qe e.2 - x) = q5 e.2 := by
              rw [M5, if_pos (by omega), F5, A2]
            repeat first
              | refine z_gq (by first | omega | (simp [hI_sI, hI_sF, hI_sR, hI_nw, hI_ff, hI_fl, hI_cp]; try omega)) ?_
              | refine z_iq rfl (by first | omega | (simp [hI_sI, hI_sF, hI_sR, hI_nw, hI_ff, hI_fl, hI_cp]; try omega)) (by first | omega | (simp [hI_sI, hI_sF, hI_sR, hI_nw, hI_ff, hI_fl, hI_cp]; try omega)) ?_
              | refine z_dq (mS.owner hS) ?_
              | refine z_dq (mS.old hS) ?_
            refine c_least ?_
            refine c_sets hS hk N0 (by omega) ?_
            repeat first
              | refine z_gq (by first | omega | (simp [hI_sI, hI_sF, hI_sR, hI_nw, hI_ff, hI_fl, hI_cp]; try omega)) ?_
              | refine z_iq rfl (by first | omega | (simp [hI_sI, hI_sF, hI_sR, hI_nw, hI_ff, hI_fl, hI_cp]; try omega)) (by first | omega | (simp [hI_sI, hI_sF, hI_sR, hI_nw, hI_ff, hI_fl, hI_cp]; try omega)) ?_
              | refine z_dq (mS.owner hS) ?_
              | refine z_dq (mS.old hS) ?_
            refine z_bq (fun hy => ?_) (fun hy => ?_)
            · have hy' : qe e.2 = hI u 150 (7 * e.1 + 3) + hI u 150 (7 * e.1 + 2) := hy
              have A6 : min (hI u 150 (7 * e.1 + 6)) (qe e.2 - x) = q6 e.2 := by
                rw [M6, if_pos (by omega), F6, A2]
              repeat first
                | refine z_gq (by first | omega | (simp [hI_sI, hI_sF, hI_sR, hI_nw, hI_ff, hI_fl, hI_cp]; try omega)) ?_
                | refine z_iq rfl (by first | omega | (simp [hI_sI, hI_sF, hI_sR, hI_nw, hI_ff, hI_fl, hI_cp]; try omega)) (by first | omega | (simp [hI_sI, hI_sF, hI_sR, hI_nw, hI_ff, hI_fl, hI_cp]; try omega)) ?_
                | refine z_dq (mS.owner hS) ?_
                | refine z_dq (mS.old hS) ?_
              refine c_least ?_
              refine c_sets hS hk N0 (by omega) ?_
              exact key _ _ _ _ _ _ _ (F0'.trans M0.symm) A1 A2 m2.symm A4 A5 A6
            · have hy' : ¬ qe e.2 = hI u 150 (7 * e.1 + 3) + hI u 150 (7 * e.1 + 2) := hy
              have A6 : 0 = q6 e.2 := by
                rw [M6, if_neg (by omega)]
              repeat first
                | refine z_gq (by first | omega | (simp [hI_sI, hI_sF, hI_sR, hI_nw, hI_ff, hI_fl, hI_cp]; try omega)) ?_
                | refine z_iq rfl (by first | omega | (simp [hI_sI, hI_sF, hI_sR, hI_nw, hI_ff, hI_fl, hI_cp]; try omega)) (by first | omega | (simp [hI_sI, hI_sF, hI_sR, hI_nw, hI_ff, hI_fl, hI_cp]; try omega)) ?_
                | refine z_dq (mS.owner hS) ?_
                | refine z_dq (mS.old hS) ?_
              refine c_sets hS hk N0 (by omega) ?_
              exact key _ _ _ _ _ _ _ (F0'.trans M0.symm) A1 A2 m2.symm A4 A5 A6
          · have hx' : ¬ x = hI u 150 (7 * e.1 + 3) := hx
            have A5 : 0 = q5 e.2 := by
              rw [M5, if_neg (by omega)]
            repeat first
              | refine z_gq (by first | omega | (simp [hI_sI, hI_sF, hI_sR, hI_nw, hI_ff, hI_fl, hI_cp]; try omega)) ?_
              | refine z_iq rfl (by first | omega | (simp [hI_sI, hI_sF, hI_sR, hI_nw, hI_ff, hI_fl, hI_cp]; try omega)) (by first | omega | (simp [hI_sI, hI_sF, hI_sR, hI_nw, hI_ff, hI_fl, hI_cp]; try omega)) ?_
              | refine z_dq (mS.owner hS) ?_
              | refine z_dq (mS.old hS) ?_
            refine c_sets hS hk N0 (by omega) ?_
            repeat first
              | refine z_gq (by first | omega | (simp [hI_sI, hI_sF, hI_sR, hI_nw, hI_ff, hI_fl, hI_cp]; try omega)) ?_
              | refine z_iq rfl (by first | omega | (simp [hI_sI, hI_sF, hI_sR, hI_nw, hI_ff, hI_fl, hI_cp]; try omega)) (by first | omega | (simp [hI_sI, hI_sF, hI_sR, hI_nw, hI_ff, hI_fl, hI_cp]; try omega)) ?_
              | refine z_dq (mS.owner hS) ?_
              | refine z_dq (mS.old hS) ?_
            refine z_bq (fun hy => ?_) (fun hy => ?_)
            · have hy' : qe e.2 = hI u 150 (7 * e.1 + 3) + hI u 150 (7 * e.1 + 2) := hy
              have A6 : min (hI u 150 (7 * e.1 + 6)) (qe e.2 - x) = q6 e.2 := by
                rw [M6, if_pos (by omega), F6, A2]
              repeat first
                | refine z_gq (by first | omega | (simp [hI_sI, hI_sF, hI_sR, hI_nw, hI_ff, hI_fl, hI_cp]; try omega)) ?_
                | refine z_iq rfl (by first | omega | (simp [hI_sI, hI_sF, hI_sR, hI_nw, hI_ff, hI_fl, hI_cp]; try omega)) (by first | omega | (simp [hI_sI, hI_sF, hI_sR, hI_nw, hI_ff, hI_fl, hI_cp]; try omega)) ?_
                | refine z_dq (mS.owner hS) ?_
                | refine z_dq (mS.old hS) ?_
              refine c_least ?_
              refine c_sets hS hk N0 (by omega) ?_
              exact key _ _ _ _ _ _ _ (F0'.trans M0.symm) A1 A2 m2.symm A4 A5 A6
            · have hy' : ¬ qe e.2 = hI u 150 (7 * e.1 + 3) + hI u 150 (7 * e.1 + 2) := hy
              have A6 : 0 = q6 e.2 := by
                rw [M6, if_neg (by omega)]
              repeat first
                | refine z_gq (by first | omega | (simp [hI_sI, hI_sF, hI_sR, hI_nw, hI_ff, hI_fl, hI_cp]; try omega)) ?_
                | refine z_iq rfl (by first | omega | (simp [hI_sI, hI_sF, hI_sR, hI_nw, hI_ff, hI_fl, hI_cp]; try omega)) (by first | omega | (simp [hI_sI, hI_sF, hI_sR, hI_nw, hI_ff, hI_fl, hI_cp]; try omega)) ?_
                | refine z_dq (mS.owner hS) ?_
                | refine z_dq (mS.old hS) ?_
              refine c_sets hS hk N0 (by omega) ?_
              exact key _ _ _ _ _ _ _ (F0'.trans M0.symm) A1 A2 m2.symm A4 A5 A6
    · rw [ho] at hb
      repeat first
        | refine z_gq (by first | omega | (simp [hI_sI, hI_sF, hI_sR, hI_nw, hI_ff, hI_fl, hI_cp]; try omega)) ?_
        | refine z_iq rfl (by first | omega | (simp [hI_sI, hI_sF, hI_sR, hI_nw, hI_ff, hI_fl, hI_cp]; try omega)) (by first | omega | (simp [hI_sI, hI_sF, hI_sR, hI_nw, hI_ff, hI_fl, hI_cp]; try omega)) ?_
        | refine z_dq (mS.now hS) ?_
        | refine z_dq (mS.floats hS) ?_
        | refine z_dq (mS.sizes hS) ?_
        | refine z_dq (mS.shut hS) ?_
        | refine z_dq (mS.past hS) ?_
        | refine z_dq (mS.deeds hS) ?_
        | refine z_dq (mS.images hS) ?_
        | refine z_dq (mS.imageShut hS) ?_
        | refine z_dq (mS.kept hS) ?_
        | refine z_dq (mS.owner hS) ?_
        | refine z_dq (mS.old hS) ?_
        | refine z_dq (mS.letters hS) ?_
        | refine z_dq (mS.toldSizes hS) ?_
        | refine z_dq (mS.sort hS) ?_
        | refine z_dq (mS.room hS) ?_
        | refine z_dq (mS.things hS) ?_
      refine w_lays hk hR hM m (x + 1) n R2 u _ _ _ hS ho hf (by omega) (by omega) (by omega) (by omega) ?_ h6 (fun e he hq => h7 e he (by omega)) h
      have hn : ∀ e, e ∈ R2 → ¬ q3 e.2 = x := by
        intro e he hq
        rw [hb0.mpr ⟨e, h6 e he, hq⟩] at hb
        cases hb
      cases R2 with
      | nil => trivial
      | cons e r =>
        have := hn e (List.mem_cons_self ..)
        have hc := RS_c h5
        exact RS_m ⟨by omega, hc.1.2⟩ hc.2
theorem c_lays {d : Nat} {k t : Int} {R : List (Int × Sp)} {u : aS} {Q : aQ} (hS : mS u) (hk : 0 ≤ k ∧ k ≤ 3) (hR : Rp (hI u 149) t R) (hn : R.length ≤ 12) (hM : ∀ e, e ∈ R → Mq (hI u 150) e ∧ 0 ≤ e.1 ∧ e.1 ≤ 12) (h : ∀ u', fA (fun a => a = 142) u u' → nx u' = nx u → (∀ j, ¬ (86 * k ≤ j ∧ j < 86 * k + 85) → hI u' 142 j = hI u 142 j) → (∀ sh, hI u 142 (86 * k + 85) = sh → mTk u' 142 (86 * k) (R.map Prod.snd, sh)) → Q none u') : wpm (d + 2) M_X8_lays [vR 139, vI k, vI t] u Q := by
  refine e_X8_lays rfl (run [(5, [])] 40 ?_)
  refine w_lays hk hR hM 128 0 0 R u _ _ _ hS rfl rfl (by omega) (by omega) (by omega) (by omega) hR.1 (fun _ z => z) (fun _ z _ => z) (fun u' m1 m2 m3 m4 m5 => ?_)
  refine h u' m1 m2 (fun j hj => m3 j (by omega)) (fun sh hs => mTk_m ?_ ?_ (fun j p hp => ?_))
  · rw [m4]
    simp
  · rw [m3 _ (by omega), hs]
  · have hp' : (R.map Prod.snd)[j]? = some p := hp
    rw [List.getElem?_map] at hp'
    cases hr : R[j]? with
    | none =>
      rw [hr] at hp'
      cases hp'
    | some e =>
      rw [hr] at hp'
      have := m5 j e hr
      have e1 : e.2 = p := by simpa using hp'
      rw [e1, Int.zero_add] at this
      exact this
theorem w_notes1 {d : Nat} {Q : aQ} {k : Int} (hk : 0 ≤ k ∧ k ≤ 3) {c s : Nat} : ∀ (n : Nat) (i : Int) (u : aS), mS u → i + n = 258 → 0 ≤ i → wp (wpm d) cd_X8_notes Q 50 [vR 139, vI k, vI (344 * k), vI 258] [] (cp u 144 (344 * k + i) (344 * k + 258) 144 86) c s → wp (wpm d) cd_X8_notes Q 18 [vR 139, vI k, vI (344 * k), vI i] [] u c s
  | 0, i, u, hS, h1, h2, h => by
    refine run [(18, []), (50, [])] 40 ?_
    refine z_bq (fun hl => ?_) (fun hl => ?_)
    · omega
    · have e : i = 258 := by omega
      subst e
      rw [cp_end u _ _ _ (by omega)] at h
      exact h
  | n + 1, i, u, hS, h1, h2, h => by
    refine run [(18, []), (50, [])] 40 ?_
    refine z_bq (fun hl => ?_) (fun hl => by omega)
    repeat first
      | refine z_gq (by first | omega | (simp [hI_sI, hI_sF, hI_sR, hI_nw, hI_ff, hI_fl, hI_cp]; try omega)) ?_
      | refine z_iq rfl (by first | omega | (simp [hI_sI, hI_sF, hI_sR, hI_nw, hI_ff, hI_fl, hI_cp]; try omega)) (by first | omega | (simp [hI_sI, hI_sF, hI_sR, hI_nw, hI_ff, hI_fl, hI_cp]; try omega)) ?_
      | refine z_dq (mS.past hS) ?_
    refine w_notes1 hk n (i + 1) _ hS (by omega) (by omega) ?_
    rw [← cp_stp u _ _ _ (by omega) (by omega)] at h
    rw [show 344 * k + (i + 1) = 344 * k + i + 1 by omega]
    exact h
theorem w_notes2 {d : Nat} {Q : aQ} {k D : Int} (hk : 0 ≤ k ∧ k ≤ 3) (hD : 0 ≤ D ∧ D ≤ 3) {c s : Nat} : ∀ (n : Nat) (i : Int) (u : aS), mS u → hI u 145 k = D → i + n = 86 → 0 ≤ i → wp (wpm d) cd_X8_notes Q 103 [vR 139, vI k, vI (344 * k), vI 86] [] (cp u 144 (344 * k + 86 * D + i) (344 * k + 86 * D + 86) 142 (86 * k - (344 * k + 86 * D))) c s → wp (wpm d) cd_X8_notes Q 62 [vR 139, vI k, vI (344 * k), vI i] [] u c s
  | 0, i, u, hS, he, h1, h2, h => by
    refine run [(62, []), (103, [])] 40 ?_
    refine z_bq (fun hl => ?_) (fun hl => ?_)
    · omega
    · have e : i = 86 := by omega
      subst e
      rw [cp_end u _ _ _ (by omega)] at h
      exact h
  | n + 1, i, u, hS, he, h1, h2, h => by
    refine run [(62, []), (103, [])] 60 ?_
    refine z_bq (fun hl => ?_) (fun hl => by omega)
    repeat first
      | refine z_gq (by first | omega | (simp [hI_sI, hI_sF, hI_sR, hI_nw, hI_ff, hI_fl, hI_cp]; try omega)) ?_
      | refine z_iq rfl (by first | omega | (simp [hI_sI, hI_sF, hI_sR, hI_nw, hI_ff, hI_fl, hI_cp]; try omega)) (by first | omega | (simp [hI_sI, hI_sF, hI_sR, hI_nw, hI_ff, hI_fl, hI_cp]; try omega)) ?_
      | refine z_dq (mS.past hS) ?_
      | refine z_dq (mS.now hS) ?_
      | refine z_dq (mS.deeds hS) ?_
    refine w_notes2 (D := D) hk hD n (i + 1) _ hS he (by omega) (by omega) ?_
    rw [← cp_stp u _ _ _ (by omega) (by omega)] at h
    rw [show 344 * k + 86 * D + (i + 1) = 344 * k + 86 * D + i + 1 by omega, he, show 86 * k + i = 344 * k + 86 * D + i + (86 * k - (344 * k + 86 * D)) by omega]
    exact h
