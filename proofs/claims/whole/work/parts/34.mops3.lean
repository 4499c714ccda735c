/-! tracks: undo, keep, back of the model -/
theorem w_undo {d : Nat} {Q : aQ} {k D : Int} (hk : 0 ≤ k ∧ k ≤ 3) (hD : 0 ≤ D ∧ D ≤ 3) {c s : Nat} : ∀ (n : Nat) (i : Int) (u : aS), mS u → hI u 145 k = D → i + n = 86 → 0 ≤ i → wp (wpm d) cd_X8_undo Q 79 [vR 139, vI k, vI 86] [] (cp u 142 (86 * k + i) (86 * k + 86) 144 (344 * k + 86 * D - 86 * k)) c s → wp (wpm d) cd_X8_undo Q 34 [vR 139, vI k, vI i] [] u c s
  | 0, i, u, hS, he, h1, h2, h => by
    refine run [(34, []), (79, [])] 60 ?_
    refine z_bq (fun hl => ?_) (fun hl => ?_)
    · omega
    · have e : i = 86 := by omega
      subst e
      rw [cp_end u _ _ _ (by omega)] at h
      exact h
  | n + 1, i, u, hS, he, h1, h2, h => by
    refine run [(34, []), (79, [])] 60 ?_
    refine z_bq (fun hl => ?_) (fun hl => by omega)
    repeat first
      | refine z_gq (by first | omega | (simp [hI_sI, hI_sF, hI_sR, hI_nw, hI_ff, hI_fl, hI_cp]; try omega)) ?_
      | refine z_iq rfl (by first | omega | (simp [hI_sI, hI_sF, hI_sR, hI_nw, hI_ff, hI_fl, hI_cp]; try omega)) (by first | omega | (simp [hI_sI, hI_sF, hI_sR, hI_nw, hI_ff, hI_fl, hI_cp]; try omega)) ?_
      | refine z_dq (mS.past hS) ?_
      | refine z_dq (mS.now hS) ?_
      | refine z_dq (mS.deeds hS) ?_
    refine w_undo (D := D) hk hD n (i + 1) _ hS he (by omega) (by omega) ?_
    rw [← cp_stp u _ _ _ (by omega) (by omega)] at h
    rw [show 86 * k + (i + 1) = 86 * k + i + 1 by omega, he, show 344 * k + 86 * D + i = 86 * k + i + (344 * k + 86 * D - 86 * k) by omega]
    exact h
theorem c_undo {d : Nat} {k : Int} {u : aS} {Q : aQ} {A : Al} (hA : mA u A) (hV : vTr A.2.2.2.1) (h : ∀ u', mA u' (A.1, A.2.1, A.2.2.1, (oUndo A.2.2.2.1 k).2, A.2.2.2.2) → fM u u' → Q (some (vI (oUndo A.2.2.2.1 k).1)) u') : wpm (d + 3) M_X8_undo [vR 139, vI k] u Q := by
  have hS := hA.1
  unfold oUndo at h
  refine e_X8_undo rfl (run [(34, [])] 150 ?_)
  refine c_isTrack (fun k0 k1 => ?_) (fun k0 => ?_)
  · rw [if_neg (by omega)] at h
    obtain ⟨c1, c2, c3, c4⟩ := hA.2.2.2.2.1 k k0 k1
    obtain ⟨v1, v2, v3⟩ := hV k k0 k1
    repeat first
      | refine z_gq (by first | omega | (simp [hI_sI, hI_sF, hI_sR, hI_nw, hI_ff, hI_fl, hI_cp]; try omega)) ?_
      | refine z_iq rfl (by first | omega | (simp [hI_sI, hI_sF, hI_sR, hI_nw, hI_ff, hI_fl, hI_cp]; try omega)) (by first | omega | (simp [hI_sI, hI_sF, hI_sR, hI_nw, hI_ff, hI_fl, hI_cp]; try omega)) ?_
      | refine z_dq (mS.deeds hS) ?_
    cases hl : (A.2.2.2.1 k).2.1 with
    | nil =>
      rw [hl] at h c3
      simp at c3
      refine z_bq (fun hz => ?_) (fun hz => by omega)
      exact h u hA (fM_rfl u)
    | cons t l =>
      rw [hl] at h c3 v1 c4 v2
      simp at c3 v1
      refine z_bq (fun hz => by omega) (fun hz => ?_)
      repeat first
        | refine z_gq (by first | omega | (simp [hI_sI, hI_sF, hI_sR, hI_nw, hI_ff, hI_fl, hI_cp]; try omega)) ?_
        | refine z_iq rfl (by first | omega | (simp [hI_sI, hI_sF, hI_sR, hI_nw, hI_ff, hI_fl, hI_cp]; try omega)) (by first | omega | (simp [hI_sI, hI_sF, hI_sR, hI_nw, hI_ff, hI_fl, hI_cp]; try omega)) ?_
        | refine z_dq (mS.deeds hS) ?_
      have eD : hI (sI u 145 k (hI u 145 k - 1)) 145 k = l.length := by
        simp [hI_sI]
        omega
      refine w_undo (D := l.length) ⟨k0, k1⟩ (by omega) 86 0 _ hS eD (by omega) (by omega) ?_
      refine run [] 60 ?_
      repeat first
        | refine z_gq (by first | omega | (simp [hI_sI, hI_sF, hI_sR, hI_nw, hI_ff, hI_fl, hI_cp]; try omega)) ?_
        | refine z_iq rfl (by first | omega | (simp [hI_sI, hI_sF, hI_sR, hI_nw, hI_ff, hI_fl, hI_cp]; try omega)) (by first | omega | (simp [hI_sI, hI_sF, hI_sR, hI_nw, hI_ff, hI_fl, hI_cp]; try omega)) ?_
        | refine z_dq (mS.deeds hS) ?_
      have hf : fA (fun a => a = 142 ∨ a = 145) u (cp (sI u 145 k (hI u 145 k - 1)) 142 (86 * k + 0) (86 * k + 86) 144 (344 * k + 86 * l.length - 86 * k)) := fA_tr (fA_sI _ _ _ (by omega)) (fA_cp _ _ _ _ _ (by omega))
      refine q_eq (h _ (mA_tr hf (fun a => by omega) hA (mTr_up hA.2.2.2.2.1 hV (fun j hj => ?_) (fun j _ => rfl) (fun j hj => ?_) (fun j _ => rfl) ?_ c2 ?_ (fun j x hx => ?_))) (fM_of hf (fun a => by omega) rfl)) ?_
      · rw [hI_cp, if_neg (by omega), hI_sI, if_neg (by omega)]
      · rw [hI_cp, if_neg (by omega), hI_sI, if_neg (fun z => hj z.2)]
      · have g := c4 0 t rfl
        refine mTk_cp (v2 t (by simp)).1.2.1 (fun q q0 q1 => ?_) g
        rw [hI_cp, if_pos (by omega), hI_sI, if_neg (by omega)]
        simp
        rw [show 86 * k + q + (344 * k + 86 * (l.length : Int) - 86 * k) = 344 * k + 86 * (l.length : Int) + q by omega]
      · rw [hI_cp, if_neg (by omega)]
        exact eD
      · have g := c4 (j + 1) x (by simpa using hx)
        refine mTk_e (u := u) (fun i => rfl) ?_
        have e2 : 344 * k + 86 * (((t :: l).length : Int) - 1 - ((j + 1 : Nat) : Int)) = 344 * k + 86 * ((l.length : Int) - 1 - j) := by
          simp
          omega
        rw [e2] at g
        exact g
      · rw [hI_cp, if_neg (by omega)]
        exact eD
  · rw [if_pos (by omega)] at h
    exact h u hA (fM_rfl u)
theorem c_allSpans {d : Nat} {u : aS} {Q : aQ} (hS : mS u) (hm : ∀ k, 0 ≤ k → k ≤ 3 → 0 ≤ hI u 142 (86 * k + 84) ∧ hI u 142 (86 * k + 84) ≤ 12) (h : Q (some (vI (hI u 142 (86 * 0 + 84) + hI u 142 (86 * 1 + 84) + hI u 142 (86 * 2 + 84) + hI u 142 (86 * 3 + 84)))) u) : wpm (d + 2) M_X8_allSpans [vR 139] u Q := by
  have h0 := hm 0 (by omega) (by omega)
  have h1 := hm 1 (by omega) (by omega)
  have h2 := hm 2 (by omega) (by omega)
  have h3 := hm 3 (by omega) (by omega)
  refine e_X8_allSpans rfl (run [] 60 ?_)
  refine c_many hS (by omega) ?_
  refine c_many hS (by omega) ?_
  repeat first
    | refine z_gq (by first | omega | (simp [hI_sI, hI_sF, hI_sR, hI_nw, hI_ff, hI_fl, hI_cp]; try omega)) ?_
    | refine z_iq rfl (by first | omega | (simp [hI_sI, hI_sF, hI_sR, hI_nw, hI_ff, hI_fl, hI_cp]; try omega)) (by first | omega | (simp [hI_sI, hI_sF, hI_sR, hI_nw, hI_ff, hI_fl, hI_cp]; try omega)) ?_
    | refine z_dq (mS.now hS) ?_
    | refine z_dq (mS.floats hS) ?_
    | refine z_dq (mS.sizes hS) ?_
    | refine z_dq (mS.shut hS) ?_
    | refine z_dq (mS.past hS) ?_
    | refine z_dq (mS.deeds hS) ?_
    | refine z_dq (mS.images hS) ?_
    | refine z_dq (mS.imageShut hS) ?_
    | refine z_dq (mS.kept hS) ?_
    | refine z_dq (mS.owner hS) ?_
    | refine z_dq (mS.old hS) ?_
    | refine z_dq (mS.letters hS) ?_
    | refine z_dq (mS.toldSizes hS) ?_
    | refine z_dq (mS.sort hS) ?_
    | refine z_dq (mS.room hS) ?_
    | refine z_dq (mS.things hS) ?_
  refine c_many hS (by omega) ?_
  repeat first
    | refine z_gq (by first | omega | (simp [hI_sI, hI_sF, hI_sR, hI_nw, hI_ff, hI_fl, hI_cp]; try omega)) ?_
    | refine z_iq rfl (by first | omega | (simp [hI_sI, hI_sF, hI_sR, hI_nw, hI_ff, hI_fl, hI_cp]; try omega)) (by first | omega | (simp [hI_sI, hI_sF, hI_sR, hI_nw, hI_ff, hI_fl, hI_cp]; try omega)) ?_
    | refine z_dq (mS.now hS) ?_
    | refine z_dq (mS.floats hS) ?_
    | refine z_dq (mS.sizes hS) ?_
    | refine z_dq (mS.shut hS) ?_
    | refine z_dq (mS.past hS) ?_
    | refine z_dq (mS.deeds hS) ?_
    | refine z_dq (mS.images hS) ?_
    | refine z_dq (mS.imageShut hS) ?_
    | refine z_dq (mS.kept hS) ?_
    | refine z_dq (mS.owner hS) ?_
    | refine z_dq (mS.old hS) ?_
    | refine z_dq (mS.letters hS) ?_
    | refine z_dq (mS.toldSizes hS) ?_
    | refine z_dq (mS.sort hS) ?_
    | refine z_dq (mS.room hS) ?_
    | refine z_dq (mS.things hS) ?_
  refine c_many hS (by omega) ?_
  repeat first
    | refine z_gq (by first | omega | (simp [hI_sI, hI_sF, hI_sR, hI_nw, hI_ff, hI_fl, hI_cp]; try omega)) ?_
    | refine z_iq rfl (by first | omega | (simp [hI_sI, hI_sF, hI_sR, hI_nw, hI_ff, hI_fl, hI_cp]; try omega)) (by first | omega | (simp [hI_sI, hI_sF, hI_sR, hI_nw, hI_ff, hI_fl, hI_cp]; try omega)) ?_
    | refine z_dq (mS.now hS) ?_
    | refine z_dq (mS.floats hS) ?_
    | refine z_dq (mS.sizes hS) ?_
    | refine z_dq (mS.shut hS) ?_
    | refine z_dq (mS.past hS) ?_
    | refine z_dq (mS.deeds hS) ?_
    | refine z_dq (mS.images hS) ?_
    | refine z_dq (mS.imageShut hS) ?_
    | refine z_dq (mS.kept hS) ?_
    | refine z_dq (mS.owner hS) ?_
    | refine z_dq (mS.old hS) ?_
    | refine z_dq (mS.letters hS) ?_
    | refine z_dq (mS.toldSizes hS) ?_
    | refine z_dq (mS.sort hS) ?_
    | refine z_dq (mS.room hS) ?_
    | refine z_dq (mS.things hS) ?_
  exact h
theorem w_keep1 {d : Nat} {Q : aQ} {k : Int} (hk : 0 ≤ k ∧ k ≤ 1) {c s : Nat} : ∀ (n : Nat) (i : Int) (u : aS), mS u → i + n = 344 → 0 ≤ i → wp (wpm d) cd_X8_keep Q 46 [vR 139, vI k, vI 344] [] (cp u 146 (344 * k + i) (344 * k + 344) 142 (-(344 * k))) c s → wp (wpm d) cd_X8_keep Q 15 [vR 139, vI k, vI i] [] u c s
  | 0, i, u, hS, h1, h2, h => by
    refine run [(15, []), (46, [])] 60 ?_
    refine z_bq (fun hl => ?_) (fun hl => ?_)
    · omega
    · have e : i = 344 := by omega
      subst e
      rw [cp_end u _ _ _ (by omega)] at h
      exact h
  | n + 1, i, u, hS, h1, h2, h => by
    refine run [(15, []), (46, [])] 60 ?_
    refine z_bq (fun hl => ?_) (fun hl => by omega)
    repeat first
      | refine z_gq (by first | omega | (simp [hI_sI, hI_sF, hI_sR, hI_nw, hI_ff, hI_fl, hI_cp]; try omega)) ?_
      | refine z_iq rfl (by first | omega | (simp [hI_sI, hI_sF, hI_sR, hI_nw, hI_ff, hI_fl, hI_cp]; try omega)) (by first | omega | (simp [hI_sI, hI_sF, hI_sR, hI_nw, hI_ff, hI_fl, hI_cp]; try omega)) ?_
      | refine z_dq (mS.images hS) ?_
      | refine z_dq (mS.now hS) ?_
    refine w_keep1 hk n (i + 1) _ hS (by omega) (by omega) ?_
    rw [← cp_stp u _ _ _ (by omega) (by omega), show 344 * k + i + -(344 * k) = i by omega] at h
    rw [show 344 * k + (i + 1) = 344 * k + i + 1 by omega]
    exact h
theorem w_keep2 {d : Nat} {Q : aQ} {k : Int} (hk : 0 ≤ k ∧ k ≤ 1) {c s : Nat} : ∀ (n : Nat) (i : Int) (u : aS), mS u → i + n = 4 → 0 ≤ i → wp (wpm d) cd_X8_keep Q 75 [vR 139, vI k, vI 4] [] (cp u 147 (4 * k + i) (4 * k + 4) 143 (-(4 * k))) c s → wp (wpm d) cd_X8_keep Q 48 [vR 139, vI k, vI i] [] u c s
  | 0, i, u, hS, h1, h2, h => by
    refine run [(48, []), (75, [])] 60 ?_
    refine z_bq (fun hl => ?_) (fun hl => ?_)
    · omega
    · have e : i = 4 := by omega
      subst e
      rw [cp_end u _ _ _ (by omega)] at h
      exact h
  | n + 1, i, u, hS, h1, h2, h => by
    refine run [(48, []), (75, [])] 60 ?_
    refine z_bq (fun hl => ?_) (fun hl => by omega)
    repeat first
      | refine z_gq (by first | omega | (simp [hI_sI, hI_sF, hI_sR, hI_nw, hI_ff, hI_fl, hI_cp]; try omega)) ?_
      | refine z_iq rfl (by first | omega | (simp [hI_sI, hI_sF, hI_sR, hI_nw, hI_ff, hI_fl, hI_cp]; try omega)) (by first | omega | (simp [hI_sI, hI_sF, hI_sR, hI_nw, hI_ff, hI_fl, hI_cp]; try omega)) ?_
      | refine z_dq (mS.imageShut hS) ?_
      | refine z_dq (mS.shut hS) ?_
    refine w_keep2 hk n (i + 1) _ hS (by omega) (by omega) ?_
    rw [← cp_stp u _ _ _ (by omega) (by omega), show 4 * k + i + -(4 * k) = i by omega] at h
    rw [show 4 * k + (i + 1) = 4 * k + i + 1 by omega]
    exact h
def vKp (P : Kp) : Prop := ∀ k, 0 ≤ k → k ≤ 1 → ((P k).1 = 0 ∨ (P k).1 = 1) ∧ ((P k).1 = 1 → ∀ j, 0 ≤ j → j ≤ 3 → vTk ((P k).2 j).1 ∧ (((P k).2 j).2 = 0 ∨ ((P k).2 j).2 = 1))
theorem c_keep {d : Nat} {k : Int} {u : aS} {Q : aQ} {A : Al} (hA : mA u A) (hV : vTr A.2.2.2.1) (hP : vKp A.2.2.2.2) (h : ∀ u', mA u' (A.1, A.2.1, A.2.2.1, A.2.2.2.1, (oKeep A.2.2.2.1 A.2.2.2.2 k).2) → fM u u' → Q (some (vI (oKeep A.2.2.2.1 A.2.2.2.2 k).1)) u') : wpm (d + 3) M_X8_keep [vR 139, vI k] u Q := by
  have hS := hA.1
  unfold oKeep at h
  refine e_X8_keep rfl (run [(15, [])] 150 ?_)
  refine c_in (fun k0 k1 => ?_) (fun k0 => ?_)
  · rw [if_neg (by omega)] at h
    refine w_keep1 ⟨k0, k1⟩ 344 0 u hS (by omega) (by omega) ?_
    refine run [(48, [])] 150 ?_
    refine w_keep2 ⟨k0, k1⟩ 4 0 _ hS (by omega) (by omega) ?_
    refine run [] 60 ?_
    repeat first
      | refine z_gq (by first | omega | (simp [hI_sI, hI_sF, hI_sR, hI_nw, hI_ff, hI_fl, hI_cp]; try omega)) ?_
      | refine z_iq rfl (by first | omega | (simp [hI_sI, hI_sF, hI_sR, hI_nw, hI_ff, hI_fl, hI_cp]; try omega)) (by first | omega | (simp [hI_sI, hI_sF, hI_sR, hI_nw, hI_ff, hI_fl, hI_cp]; try omega)) ?_
      | refine z_dq (mS.kept hS) ?_
    have hm : ∀ k, 0 ≤ k → k ≤ 3 → hI u 142 (86 * k + 84) = (A.2.2.2.1 k).1.1.length ∧ (A.2.2.2.1 k).1.1.length ≤ 12 := fun k k0 k1 => ⟨(hA.2.2.2.2.1 k k0 k1).1.1, hV.len k0 k1⟩
    have g : mKp (sI (cp (cp u 146 (344 * k + 0) (344 * k + 344) 142 (-(344 * k))) 147 (4 * k + 0) (4 * k + 4) 143 (-(4 * k))) 148 k 1) (fun j => if j = k then (1, fun i => ((A.2.2.2.1 i).1, (A.2.2.2.1 i).2.2)) else A.2.2.2.2 j) := by
      intro j j0 j1
      by_cases e : j = k
      · subst e
        simp only [if_true]
        refine ⟨by rw [hI_sI, if_pos ⟨rfl, rfl⟩], fun _ i i0 i1 => ⟨?_, ?_⟩⟩
        · obtain ⟨c1, c2, c3, c4⟩ := hA.2.2.2.2.1 i i0 i1
          refine mTk_cp (u := u) (a := 142) (b := 86 * i) (hV.len i0 i1) (fun q q0 q1 => ?_) c1
          rw [hI_sI, if_neg (by omega), hI_cp, if_neg (by omega), hI_cp, if_pos (by omega), show 344 * j + 86 * i + q + -(344 * j) = 86 * i + q by omega]
        · obtain ⟨c1, c2, c3, c4⟩ := hA.2.2.2.2.1 i i0 i1
          rw [hI_sI, if_neg (by omega), hI_cp, if_pos (by omega), hI_cp, if_neg (by omega), show 4 * j + i + -(4 * j) = i by omega]
          exact c2
      · simp only [if_neg e]
        obtain ⟨d1, d2⟩ := hA.2.2.2.2.2 j j0 j1
        refine ⟨by rw [hI_sI, if_neg (fun z => e z.2)]; exact d1, fun f i i0 i1 => ⟨?_, ?_⟩⟩
        · refine mTk_cp (u := u) (a := 146) (b := 344 * j + 86 * i) (((hP j j0 j1).2 f i i0 i1).1.1.2.1) (fun q q0 q1 => ?_) (d2 f i i0 i1).1
          rw [hI_sI, if_neg (by omega), hI_cp, if_neg (by omega), hI_cp, if_neg (by omega)]
        · rw [hI_sI, if_neg (by omega), hI_cp, if_neg (by omega), hI_cp, if_neg (by omega)]
          exact (d2 f i i0 i1).2
    refine c_allSpans hS (fun k k0 k1 => ?_) ?_
    · show 0 ≤ hI u 142 (86 * k + 84) ∧ hI u 142 (86 * k + 84) ≤ 12
      have := hm k k0 k1
      omega
    · refine q_eq (h _ ⟨hS, hA.2.1, hA.2.2.1, hA.2.2.2.1, hA.2.2.2.2.1, g⟩ (fM_of (p := fun a => 139 ≤ a ∧ a ≤ 155) ?_ (fun _ z => z) rfl)) ?_
      · exact fA_tr (fA_cp _ _ _ _ _ (by omega)) (fA_tr (fA_cp _ _ _ _ _ (by omega)) (fA_sI _ _ _ (by omega)))
      · show hI u 142 (86 * 0 + 84) + hI u 142 (86 * 1 + 84) + hI u 142 (86 * 2 + 84) + hI u 142 (86 * 3 + 84) = aSp A.2.2.2.1
        rw [(hm 0 (by omega) (by omega)).1, (hm 1 (by omega) (by omega)).1, (hm 2 (by omega) (by omega)).1, (hm 3 (by omega) (by omega)).1]
        rfl
  · rw [if_pos (by omega)] at h
    exact h u hA (fM_rfl u)
theorem w_back1 {d : Nat} {Q : aQ} {k : Int} (hk : 0 ≤ k ∧ k ≤ 1) {c s : Nat} : ∀ (n : Nat) (i : Int) (u : aS), mS u → i + n = 344 → 0 ≤ i → wp (wpm d) cd_X8_back Q 58 [vR 139, vI k, vI 344] [] (cp u 142 i 344 146 (344 * k)) c s → wp (wpm d) cd_X8_back Q 27 [vR 139, vI k, vI i] [] u c s
  | 0, i, u, hS, h1, h2, h => by
    refine run [(27, []), (58, [])] 60 ?_
    refine z_bq (fun hl => ?_) (fun hl => ?_)
    · omega
    · have e : i = 344 := by omega
      subst e
      rw [cp_end u _ _ _ (by omega)] at h
      exact h
  | n + 1, i, u, hS, h1, h2, h => by
    refine run [(27, []), (58, [])] 60 ?_
    refine z_bq (fun hl => ?_) (fun hl => by omega)
    repeat first
      | refine z_gq (by first | omega | (simp [hI_sI, hI_sF, hI_sR, hI_nw, hI_ff, hI_fl, hI_cp]; try omega)) ?_
      | refine z_iq rfl (by first | omega | (simp [hI_sI, hI_sF, hI_sR, hI_nw, hI_ff, hI_fl, hI_cp]; try omega)) (by first | omega | (simp [hI_sI, hI_sF, hI_sR, hI_nw, hI_ff, hI_fl, hI_cp]; try omega)) ?_
      | refine z_dq (mS.images hS) ?_
      | refine z_dq (mS.now hS) ?_
    refine w_back1 hk n (i + 1) _ hS (by omega) (by omega) ?_
    rw [← cp_stp u _ _ _ (by omega) (by omega)] at h
    rw [show 344 * k + i = i + 344 * k by omega]
    exact h
theorem w_back2 {d : Nat} {Q : aQ} {k : Int} (hk : 0 ≤ k ∧ k ≤ 1) {c s : Nat} {u0 : aS} (h : ∀ u, fA (fun a => a = 143 ∨ a = 145) u0 u → nx u = nx u0 → (∀ j, 0 ≤ j → j < 4 → hI u 143 j = hI u0 147 (4 * k + j) ∧ hI u 145 j = 0) → wp (wpm d) cd_X8_back Q 94 [vR 139, vI k, vI 4] [] u c s) : ∀ (n : Nat) (i : Int) (u : aS), mS u → i + n = 4 → 0 ≤ i → fA (fun a => a = 143 ∨ a = 145) u0 u → nx u = nx u0 → (∀ j, 0 ≤ j → j < i → hI u 143 j = hI u0 147 (4 * k + j) ∧ hI u 145 j = 0) → wp (wpm d) cd_X8_back Q 60 [vR 139, vI k, vI i] [] u c s
  | 0, i, u, hS, h1, h2, hf, hn, hj => by
    refine run [(60, []), (94, [])] 60 ?_
    refine z_bq (fun hl => ?_) (fun hl => ?_)
    · omega
    · have e : i = 4 := by omega
      subst e
      exact h u hf hn hj
  | n + 1, i, u, hS, h1, h2, hf, hn, hj => by
    refine run [(60, []), (94, [])] 60 ?_
    refine z_bq (fun hl => ?_) (fun hl => by omega)
    repeat first
      | refine z_gq (by first | omega | (simp [hI_sI, hI_sF, hI_sR, hI_nw, hI_ff, hI_fl, hI_cp]; try omega)) ?_
      | refine z_iq rfl (by first | omega | (simp [hI_sI, hI_sF, hI_sR, hI_nw, hI_ff, hI_fl, hI_cp]; try omega)) (by first | omega | (simp [hI_sI, hI_sF, hI_sR, hI_nw, hI_ff, hI_fl, hI_cp]; try omega)) ?_
      | refine z_dq (mS.imageShut hS) ?_
      | refine z_dq (mS.shut hS) ?_
      | refine z_dq (mS.deeds hS) ?_
    refine w_back2 hk h n (i + 1) _ hS (by omega) (by omega) (fA_tr hf (fA_tr (fA_sI _ _ _ (by omega)) (fA_sI _ _ _ (by omega)))) hn (fun j j0 j1 => ?_)
    have e := (hf.1 147 (by omega) (4 * k + i)).1
    by_cases ej : j = i
    · subst ej
      exact ⟨by rw [hI_sI, if_neg (by omega), hI_sI, if_pos ⟨rfl, rfl⟩, e], by rw [hI_sI, if_pos ⟨rfl, rfl⟩]⟩
    · have g := hj j j0 (by omega)
      exact ⟨by rw [hI_sI, if_neg (by omega), hI_sI, if_neg (fun z => ej z.2)]; exact g.1, by rw [hI_sI, if_neg (fun z => ej z.2), hI_sI, if_neg (by omega)]; exact g.2⟩
theorem c_back {d : Nat} {k : Int} {u : aS} {Q : aQ} {A : Al} (hA : mA u A) (hP : vKp A.2.2.2.2) (h : ∀ u', mA u' (A.1, A.2.1, A.2.2.1, (oBack A.2.2.2.1 A.2.2.2.2 k).2, A.2.2.2.2) → fM u u' → Q (some (vI (oBack A.2.2.2.1 A.2.2.2.2 k).1)) u') : wpm (d + 3) M_X8_back [vR 139, vI k] u Q := by
  have hS := hA.1
  unfold oBack at h
  refine e_X8_back rfl (run [(27, [])] 150 ?_)
  refine c_in (fun k0 k1 => ?_) (fun k0 => ?_)
  · rw [if_neg (by omega)] at h
    obtain ⟨d1, d2⟩ := hA.2.2.2.2.2 k k0 k1
    obtain ⟨p1, p2⟩ := hP k k0 k1
    repeat first
      | refine z_gq (by first | omega | (simp [hI_sI, hI_sF, hI_sR, hI_nw, hI_ff, hI_fl, hI_cp]; try omega)) ?_
      | refine z_iq rfl (by first | omega | (simp [hI_sI, hI_sF, hI_sR, hI_nw, hI_ff, hI_fl, hI_cp]; try omega)) (by first | omega | (simp [hI_sI, hI_sF, hI_sR, hI_nw, hI_ff, hI_fl, hI_cp]; try omega)) ?_
      | refine z_dq (mS.kept hS) ?_
    refine z_bq (fun hz => ?_) (fun hz => ?_)
    · rw [if_pos (by omega)] at h
      exact h u hA (fM_rfl u)
    · rw [if_neg (by omega)] at h
      have hk1 : (A.2.2.2.2 k).1 = 1 := by omega
      refine w_back1 ⟨k0, k1⟩ 344 0 u hS (by omega) (by omega) ?_
      refine run [(60, [])] 150 ?_
      refine w_back2 (u0 := cp u 142 0 344 146 (344 * k)) ⟨k0, k1⟩ (fun u2 f2 n2 g2 => ?_) 4 0 _ hS (by omega) (by omega) (fA_rfl _ _) rfl (fun j j0 j1 => by omega)
      have hf : fA (fun a => a = 142 ∨ a = 143 ∨ a = 145) u u2 := fA_tr (fA_cp _ _ _ _ _ (by omega)) (fA_wk f2 (fun a => by omega))
      have g : mTr u2 (fun j => if 0 ≤ j ∧ j ≤ 3 then (((A.2.2.2.2 k).2 j).1, [], ((A.2.2.2.2 k).2 j).2) else A.2.2.2.1 j) := by
        intro j j0 j1
        simp only [if_pos (show 0 ≤ j ∧ j ≤ 3 from ⟨j0, j1⟩)]
        have e1 := d2 hk1 j j0 j1
        have e2 := g2 j j0 (by omega)
        refine ⟨?_, ?_, ?_, fun i t ht => by simp at ht⟩
        · refine mTk_cp (u := u) (a := 146) (b := 344 * k + 86 * j) ((p2 hk1 j j0 j1).1.1.2.1) (fun q q0 q1 => ?_) e1.1
          rw [(f2.1 142 (by omega) _).1, hI_cp, if_pos (by omega), show 86 * j + q + 344 * k = 344 * k + 86 * j + q by omega]
        · rw [e2.1, hI_cp, if_neg (by omega)]
          exact e1.2
        · rw [e2.2]
          rfl
      have hA2 := mA_tr hf (fun a => by omega) hA g
      refine run [] 60 ?_
      have hm : ∀ j, 0 ≤ j → j ≤ 3 → hI u2 142 (86 * j + 84) = ((A.2.2.2.2 k).2 j).1.1.length ∧ ((A.2.2.2.2 k).2 j).1.1.length ≤ 12 := by
        intro j j0 j1
        have := (g j j0 j1).1.1
        simp only [if_pos (show 0 ≤ j ∧ j ≤ 3 from ⟨j0, j1⟩)] at this
        exact ⟨this, (p2 hk1 j j0 j1).1.1.2.1⟩
      refine c_allSpans hA2.1 (fun k k0 k1 => by have := hm k k0 k1; omega) ?_
      refine q_eq (h _ hA2 (fM_of (p := fun a => a = 142 ∨ a = 143 ∨ a = 145) hf (fun a => by omega) n2)) ?_
      rw [(hm 0 (by omega) (by omega)).1, (hm 1 (by omega) (by omega)).1, (hm 2 (by omega) (by omega)).1, (hm 3 (by omega) (by omega)).1]
  · rw [if_pos (by omega)] at h
    exact h u hA (fM_rfl u)
