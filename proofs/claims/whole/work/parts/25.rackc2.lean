theorem k_takeFrom {d : Nat} {R : Nat} {S N i : Int} {T : Int → Int} {u : aS} {Q : aQ} (hr : isRk R) (hN : 0 ≤ N ∧ N ≤ 8) (hC : cR1 u R S N T) (h1 : S = -1 → Q (some (vI (-2000000011))) u) (h2 : ¬ S = -1 → ¬ (0 ≤ i ∧ i ≤ N - 1) → Q (some (vI (-2000000013))) u) (h3 : ¬ S = -1 → 0 ≤ i → i ≤ N - 1 → T i = 0 → Q (some (vI (-2000000015))) u) (h4 : ¬ S = -1 → 0 ≤ i → i ≤ N - 1 → ¬ T i = 0 → Q (some (vI (T i - 1))) (sI u (R + 1) i 0)) : wpm (d + 3) M_X0_takeFrom [vR R, vI i] u Q := by
  have k0 := hr.k0
  have k1 := hr.k1
  have k2 := hr.k2
  have e0 := hC.1
  have e1 := hC.2.1
  refine e_X0_takeFrom rfl (run [] 60 ?_)
  repeat first
    | refine z_gq (by omega) ?_
    | refine z_iq rfl (by omega) (by omega) ?_
    | refine z_kq (k0) ?_
  refine k_findAt hr hN hC (fun z => ?_) (fun z1 z2 => ?_) (fun z1 z2 z3 => ?_)
  · exact h1 z
  · exact h2 z1 z2
  · have ht := hC.2.2.2.2.2 i z2 (by omega)
    unfold cTh at ht
    repeat first
      | refine z_gq (by omega) ?_
      | refine z_iq rfl (by omega) (by omega) ?_
      | refine z_kq (k0) ?_
      | refine z_iq (k1) (by omega) (by omega) ?_
      | refine z_iq (k2) (by omega) (by omega) ?_
      | refine z_dq (e0) ?_
      | refine z_dq (e1) ?_
    refine z_bq (fun hz => ?_) (fun hz => ?_)
    · exact h3 z1 z2 z3 (by omega)
    · repeat first
        | refine z_gq (by omega) ?_
        | refine z_iq rfl (by omega) (by omega) ?_
        | refine z_kq (k0) ?_
        | refine z_iq (k1) (by omega) (by omega) ?_
        | refine z_iq (k2) (by omega) (by omega) ?_
        | refine z_dq (e0) ?_
        | refine z_dq (e1) ?_
      refine z_bq (fun hy => ?_) (fun hy => ?_)
      · repeat first
          | refine z_gq (by omega) ?_
          | refine z_iq rfl (by omega) (by omega) ?_
          | refine z_kq (k0) ?_
          | refine z_iq (k1) (by omega) (by omega) ?_
          | refine z_iq (k2) (by omega) (by omega) ?_
          | refine z_dq (e0) ?_
          | refine z_dq (e1) ?_
        have g := h4 z1 z2 z3 (by omega)
        rw [show T i - 1 = 100 + hI u (R + 2) i by omega] at g
        exact g
      · repeat first
          | refine z_gq (by omega) ?_
          | refine z_iq rfl (by omega) (by omega) ?_
          | refine z_kq (k0) ?_
          | refine z_iq (k1) (by omega) (by omega) ?_
          | refine z_iq (k2) (by omega) (by omega) ?_
          | refine z_dq (e0) ?_
          | refine z_dq (e1) ?_
        have g := h4 z1 z2 z3 (by omega)
        rw [show T i - 1 = hI u (R + 2) i by omega] at g
        exact g
theorem k_take {d : Nat} {r i : Int} {u : aS} {Q : aQ} {A : Al} (hA : cA u A) (hV : vRk A.2.2.1) (h : ∀ u', cA u' (A.1, A.2.1, (oTake A.2.2.1 r i).2, A.2.2.2) → fA (fun a => 130 ≤ a ∧ a ≤ 138) u u' → Q (some (vI (oTake A.2.2.1 r i).1)) u') : wpm (d + 4) M_X7_take [vR 8, vI r, vI i] u Q := by
  have hS := hA.1
  have hK := hA.2.2.2.2.1
  unfold oTake at h
  refine e_X7_take rfl (run [] 60 ?_)
  refine k_isRack (fun r0 r1 => ?_) (fun r0 => ?_)
  · rw [if_neg (by omega)] at h
    have hr := isRk_r r0 r1
    repeat first
      | refine z_gq (by omega) ?_
      | refine z_iq rfl (by omega) (by omega) ?_
      | refine z_dq (hS.racks) ?_
      | refine z_dq (hS.rack r0 r1) ?_
      | refine z_kq (hr.k0) ?_
    refine k_takeFrom hr (hV.1 r r0 r1).2 (hK r r0 r1) (fun z1 => ?_) (fun z1 z2 => ?_) (fun z1 z2 z3 z4 => ?_) (fun z1 z2 z3 z4 => ?_)
    · rw [if_pos z1] at h
      exact h u hA (fA_rfl _ u)
    · rw [if_neg z1, if_pos z2] at h
      exact h u hA (fA_rfl _ u)
    · rw [if_neg z1, if_neg (fun z => z ⟨z2, z3⟩), if_pos z4] at h
      exact h u hA (fA_rfl _ u)
    · rw [if_neg z1, if_neg (fun z => z ⟨z2, z3⟩), if_neg z4] at h
      have vN := (hV.1 r r0 r1).2
      have hf : fA (fun a => 130 + 3 * r.toNat ≤ a ∧ a ≤ 132 + 3 * r.toNat) u (sI u (130 + 3 * r.toNat + 1) i 0) := fA_sI u _ _ (by omega)
      obtain ⟨h1, h2, h3, h4, h5, h6⟩ := hK r r0 r1
      refine h _ (cA_rk hA (fA_wk hf (fun a => by omega)) (cRk_up (S := A.2.2.1.1 r) (N := A.2.2.1.2.1 r) (T := fun j => if j = i then 0 else A.2.2.1.2.2 (8 * r + j)) hK r0 r1 hf ⟨h1, h2, ?_, fun z => ?_, ?_, fun j j0 j1 => ?_⟩ rfl rfl (fun j j0 j1 => ?_) (fun _ _ => rfl) (fun _ _ => rfl) (fun q j e j0 j1 => if_neg (by omega)))) (fA_wk hf (fun a => by omega))
      · simpa [hI_sI] using h3
      · simpa [hI_sI] using h4 z
      · simpa [hI_sI] using h5
      · have g := h6 j j0 j1
        by_cases e : j = i
        · subst e
          simp [hI_sI, cTh]
          exact g.1
        · simpa [hI_sI, e] using g
      · show (if 8 * r + j = 8 * r + i then 0 else A.2.2.1.2.2 (8 * r + j)) = if j = i then 0 else A.2.2.1.2.2 (8 * r + j)
        by_cases e : j = i
        · rw [if_pos e, if_pos (by omega)]
        · rw [if_neg e, if_neg (by omega)]
  · rw [if_pos (by omega)] at h
    exact h u hA (fA_rfl _ u)
theorem k_drop {d : Nat} {r : Int} {u : aS} {Q : aQ} {A : Al} (hA : cA u A) (hV : vRk A.2.2.1) (h : ∀ u', cA u' (A.1, A.2.1, (oDrop A.2.2.1 r).2, A.2.2.2) → fA (fun a => 130 ≤ a ∧ a ≤ 138) u u' → Q (some (vI (oDrop A.2.2.1 r).1)) u') : wpm (d + 4) M_X7_drop [vR 8, vI r] u Q := by
  have hS := hA.1
  have hK := hA.2.2.2.2.1
  unfold oDrop at h
  refine e_X7_drop rfl (run [] 60 ?_)
  refine k_isRack (fun r0 r1 => ?_) (fun r0 => ?_)
  · rw [if_neg (by omega)] at h
    have hr := isRk_r r0 r1
    have hC := hK r r0 r1
    have eM := hC.2.2.1
    repeat first
      | refine z_gq (by omega) ?_
      | refine z_iq rfl (by omega) (by omega) ?_
      | refine z_dq (hS.racks) ?_
      | refine z_dq (hS.rack r0 r1) ?_
      | refine z_kq (hr.k0) ?_
    refine z_bq (fun hz => ?_) (fun hz => ?_)
    · have e : ¬ A.2.2.1.1 r = -1 := by
        intro z
        rw [if_pos z] at eM
        omega
      rw [if_neg e] at h
      repeat first
        | refine z_gq (by omega) ?_
        | refine z_iq rfl (by omega) (by omega) ?_
        | refine z_dq (hS.racks) ?_
        | refine z_dq (hS.rack r0 r1) ?_
        | refine z_kq (hr.k0) ?_
      refine k_things hr (hV.1 r r0 r1).2 hC ?_
      repeat first
        | refine z_gq (by omega) ?_
        | refine z_iq rfl (by omega) (by omega) ?_
        | refine z_dq (hS.racks) ?_
        | refine z_dq (hS.rack r0 r1) ?_
        | refine z_kq (hr.k0) ?_
      have hf : fA (fun a => 130 + 3 * r.toNat ≤ a ∧ a ≤ 132 + 3 * r.toNat) u (sI u (130 + 3 * r.toNat) 2 1) := fA_sI u _ _ (by omega)
      obtain ⟨h1, h2, h3, h4, h5, h6⟩ := hC
      refine h _ (cA_rk hA (fA_wk hf (fun a => by omega)) (cRk_up (S := -1) (N := A.2.2.1.2.1 r) (T := fun j => A.2.2.1.2.2 (8 * r + j)) hK r0 r1 hf ⟨h1, h2, ?_, fun z => absurd rfl z, ?_, fun j j0 j1 => ?_⟩ (if_pos rfl) rfl (fun j j0 j1 => rfl) (fun _ e => if_neg e) (fun _ _ => rfl) (fun q j e j0 j1 => rfl))) (fA_wk hf (fun a => by omega))
      · simp [hI_sI]
      · simpa [hI_sI] using h5
      · simpa [hI_sI] using h6 j j0 j1
    · have e : A.2.2.1.1 r = -1 := by
        apply Classical.byContradiction
        intro z
        rw [if_neg z] at eM
        omega
      rw [if_pos e] at h
      exact h u hA (fA_rfl _ u)
  · rw [if_pos (by omega)] at h
    exact h u hA (fA_rfl _ u)
theorem w_becomeLike {d : Nat} {Q : aQ} {R O : Nat} (hr : isRk R) (ho : isRk O) {c s : Nat} : ∀ (n : Nat) (i : Int) (u : aS), hR u R 0 = some (R + 1) → hR u R 1 = some (R + 2) → hR u O 0 = some (O + 1) → hR u O 1 = some (O + 2) → i + n = 8 → 0 ≤ i → Q none (cp (cp u (R + 1) i 8 (O + 1) 0) (R + 2) i 8 (O + 2) 0) → wp (wpm d) cd_X0_becomeLike Q 26 [vR R, vR O, vI i] [] u c s
  | 0, i, u, e0, e1, e2, e3, h1, h2, h => by
    refine run [(26, [])] 40 ?_
    refine z_bq (fun hl => ?_) (fun hl => ?_)
    · omega
    · rw [cp_end _ _ _ _ (by omega), cp_end _ _ _ _ (by omega)] at h
      exact h
  | n + 1, i, u, e0, e1, e2, e3, h1, h2, h => by
    refine run [(26, [])] 40 ?_
    refine z_bq (fun hl => ?_) (fun hl => by omega)
    repeat first
      | refine z_gq (by omega) ?_
      | refine z_iq rfl (by omega) (by omega) ?_
      | refine z_kq (hr.k0) ?_
      | refine z_kq (ho.k0) ?_
      | refine z_iq (hr.k1) (by omega) (by omega) ?_
      | refine z_iq (hr.k2) (by omega) (by omega) ?_
      | refine z_iq (ho.k1) (by omega) (by omega) ?_
      | refine z_iq (ho.k2) (by omega) (by omega) ?_
      | refine z_dq (e0) ?_
      | refine z_dq (e1) ?_
      | refine z_dq (e2) ?_
      | refine z_dq (e3) ?_
    refine w_becomeLike hr ho n (i + 1) _ e0 e1 e2 e3 (by omega) (by omega) ?_
    have g : cp (cp (sI (sI u (R + 1) i (hI u (O + 1) i)) (R + 2) i (hI (sI u (R + 1) i (hI u (O + 1) i)) (O + 2) i)) (R + 1) (i + 1) 8 (O + 1) 0) (R + 2) (i + 1) 8 (O + 2) 0 = cp (cp u (R + 1) i 8 (O + 1) 0) (R + 2) i 8 (O + 2) 0 := by
      unfold isRk at hr ho
      refine aS_ext (fun b q => ?_) (fun _ _ => rfl) (fun _ _ => rfl) rfl
      have a1 : ∀ q, hI (sI (sI u (R + 1) i (hI u (O + 1) i)) (R + 2) i (hI (sI u (R + 1) i (hI u (O + 1) i)) (O + 2) i)) (O + 1) q = if O = R ∧ q = i then hI u (O + 1) i else hI u (O + 1) q := by
        intro q
        rw [hI_sI, if_neg (by omega), hI_sI]
        by_cases e : O = R ∧ q = i
        · rw [if_pos (by omega), if_pos e]
        · rw [if_neg (by omega), if_neg e]
      simp only [hI_cp, hI_sI, Int.add_zero]
      by_cases b1 : b = R + 1
      · subst b1
        by_cases e : q = i
        · subst e
          rw [if_neg (by omega), if_neg (by omega), if_neg (by omega), if_pos (by omega), if_neg (by omega), if_pos (by omega)]
        · sorry
      · sorry
    rw [g]
    exact h
