theorem k_takeFrom {d : Nat} {R : Nat} {S N i : Int} {T : Int → Int} {u : aS} {Q : aQ} (hr : isRk R) (hN : 0 ≤ N ∧ N ≤ 8) (hC : cR1 u R S N T) (h1 : S = -1 → Q (some (vI (-2000000011))) u) (h2 : ¬ S = -1 → ¬ (0 ≤ i ∧ i ≤ N - 1) → Q (some (vI (-2000000013))) u) (h3 : ¬ S = -1 → 0 ≤ i → i ≤ N - 1 → T i = 0 → Q (some (vI (-2000000015))) u) (h4 : ¬ S = -1 → 0 ≤ i → i ≤ N - 1 → ¬ T i = 0 → Q (some (vI (T i - 1))) (sI u (R + 1) i 0)) : wpm (d + 3) M_X0_takeFrom [vR R, vI i] u Q := by
  have k0 := hr.k0
  have k1 := hr.k1
  have k2 := hr.k2
  have e0 := hC.1
  have e1 := hC.2.1
  refine e_X0_takeFrom rfl (run [] 60 ?_)
  repeat first
    | refine z_gq (by omega) ?_
    | refine z_iq rfl (by omega) (by omega) ?_
    | refine z_kq (k0) ?_
  refine k_findAt hr hN hC (fun z => ?_) (fun z1 z2 => ?_) (fun z1 z2 z3 => ?_)
  · exact h1 z
  · exact h2 z1 z2
  · have ht := hC.2.2.2.2.2 i z2 (by omega)
    unfold cTh at ht
    repeat first
      | refine z_gq (by omega) ?_
      | refine z_iq rfl (by omega) (by omega) ?_
      | refine z_kq (k0) ?_
      | refine z_iq (k1) (by omega) (by omega) ?_
      | refine z_iq (k2) (by omega) (by omega) ?_
      | refine z_dq (e0) ?_
      | refine z_dq (e1) ?_
    refine z_bq (fun hz => ?_) (fun hz => ?_)
    · exact h3 z1 z2 z3 (by omega)
    · repeat first
        | refine z_gq (by omega) ?_
        | refine z_iq rfl (by omega) (by omega) ?_
        | refine z_kq (k0) ?_
        | refine z_iq (k1) (by omega) (by omega) ?_
        | refine z_iq (k2) (by omega) (by omega) ?_
        | refine z_dq (e0) ?_
        | refine z_dq (e1) ?_
      refine z_bq (fun hy => ?_) (fun hy => ?_)
      · repeat first
          | refine z_gq (by omega) ?_
          | refine z_iq rfl (by omega) (by omega) ?_
          | refine z_kq (k0) ?_
          | refine z_iq (k1) (by omega) (by omega) ?_
          | refine z_iq (k2) (by omega) (by omega) ?_
          | refine z_dq (e0) ?_
          | refine z_dq (e1) ?_
        have g := h4 z1 z2 z3 (by omega)
        rw [show T i - 1 = 100 + hI u (R + 2) i by omega] at g
        exact g
      · repeat first
          | refine z_gq (by omega) ?_
          | refine z_iq rfl (by omega) (by omega) ?_
          | refine z_kq (k0) ?_
          | refine z_iq (k1) (by omega) (by omega) ?_
          | refine z_iq (k2) (by omega) (by omega) ?_
          | refine z_dq (e0) ?_
          | refine z_dq (e1) ?_
        have g := h4 z1 z2 z3 (by omega)
        rw [show T i - 1 = hI u (R + 2) i by omega] at g
        exact g
theorem k_take {d : Nat} {r i : Int} {u : aS} {Q : aQ} {A : Al} (hA : cA u A) (hV : vRk A.2.2.1) (h : ∀ u', cA u' (A.1, A.2.1, (oTake A.2.2.1 r i).2, A.2.2.2) → fA (fun a => 130 ≤ a ∧ a ≤ 138) u u' → Q (some (vI (oTake A.2.2.1 r i).1)) u') : wpm (d + 4) M_X7_take [vR 8, vI r, vI i] u Q := by
  have hS := hA.1
  have hK := hA.2.2.2.2.1
  unfold oTake at h
  refine e_X7_take rfl (run [] 60 ?_)
  refine k_isRack (fun r0 r1 => ?_) (fun r0 => ?_)
  · rw [if_neg (by omega)] at h
    have hr := isRk_r r0 r1
    repeat first
      | refine z_gq (by omega) ?_
      | refine z_iq rfl (by omega) (by omega) ?_
      | refine z_dq (hS.racks) ?_
      | refine z_dq (hS.rack r0 r1) ?_
      | refine z_kq (hr.k0) ?_
    refine k_takeFrom hr (hV.1 r r0 r1).2 (hK r r0 r1) (fun z1 => ?_) (fun z1 z2 => ?_) (fun z1 z2 z3 z4 => ?_) (fun z1 z2 z3 z4 => ?_)
    · rw [if_pos z1] at h
      exact h u hA (fA_rfl _ u)
    · rw [if_neg z1, if_pos z2] at h
      exact h u hA (fA_rfl _ u)
    · rw [if_neg z1, if_neg (fun z => z ⟨z2, z3⟩), if_pos z4] at h
      exact h u hA (fA_rfl _ u)
    · rw [if_neg z1, if_neg (fun z => z ⟨z2, z3⟩), if_neg z4] at h
      have vN := (hV.1 r r0 r1).2
      have hf : fA (fun a => 130 + 3 * r.toNat ≤ a ∧ a ≤ 132 + 3 * r.toNat) u (sI u (130 + 3 * r.toNat + 1) i 0) := fA_sI u _ _ (by omega)
      obtain ⟨h1, h2, h3, h4, h5, h6⟩ := hK r r0 r1
      refine h _ (cA_rk hA (fA_wk hf (fun a => by omega)) (cRk_up (S := A.2.2.1.1 r) (N := A.2.2.1.2.1 r) (T := fun j => if j = i then 0 else A.2.2.1.2.2 (8 * r + j)) hK r0 r1 hf ⟨h1, h2, ?_, fun z => ?_, ?_, fun j j0 j1 => ?_⟩ rfl rfl (fun j j0 j1 => ?_) (fun _ _ => rfl) (fun _ _ => rfl) (fun q j e j0 j1 => if_neg (by omega)))) (fA_wk hf (fun a => by omega))
      · simpa [hI_sI] using h3
      · simpa [hI_sI] using h4 z
      · simpa [hI_sI] using h5
      · have g := h6 j j0 j1
        by_cases e : j = i
        · subst e
          simp [hI_sI, cTh]
          exact g.1
        · simpa [hI_sI, e] using g
      · show (if 8 * r + j = 8 * r + i then 0 else A.2.2.1.2.2 (8 * r + j)) = if j = i then 0 else A.2.2.1.2.2 (8 * r + j)
        by_cases e : j = i
        · rw [if_pos e, if_pos (by omega)]
        · rw [if_neg e, if_neg (by omega)]
  · rw [if_pos (by omega)] at h
    exact h u hA (fA_rfl _ u)
theorem k_drop {d : Nat} {r : Int} {u : aS} {Q : aQ} {A : Al} (hA : cA u A) (hV : vRk A.2.2.1) (h : ∀ u', cA u' (A.1, A.2.1, (oDrop A.2.2.1 r).2, A.2.2.2) → fA (fun a => 130 ≤ a ∧ a ≤ 138) u u' → Q (some (vI (oDrop A.2.2.1 r).1)) u') : wpm (d + 4) M_X7_drop [vR 8, vI r] u Q := by
  have hS := hA.1
  have hK := hA.2.2.2.2.1
  unfold oDrop at h
  refine e_X7_drop rfl (run [] 60 ?_)
  refine k_isRack (fun r0 r1 => ?_) (fun r0 => ?_)
  · rw [if_neg (by omega)] at h
    have hr := isRk_r r0 r1
    have hC := hK r r0 r1
    have eM := hC.2.2.1
    repeat first
      | refine z_gq (by omega) ?_
      | refine z_iq rfl (by omega) (by omega) ?_
      | refine z_dq (hS.racks) ?_
      | refine z_dq (hS.rack r0 r1) ?_
      | refine z_kq (hr.k0) ?_
    refine z_bq (fun hz => ?_) (fun hz => ?_)
    · have e : ¬ A.2.2.1.1 r = -1 := by
        intro z
        rw [if_pos z] at eM
        omega
      rw [if_neg e] at h
      repeat first
        | refine z_gq (by omega) ?_
        | refine z_iq rfl (by omega) (by omega) ?_
        | refine z_dq (hS.racks) ?_
        | refine z_dq (hS.rack r0 r1) ?_
        | refine z_kq (hr.k0) ?_
      refine k_things hr (hV.1 r r0 r1).2 hC ?_
      repeat first
        | refine z_gq (by omega) ?_
        | refine z_iq rfl (by omega) (by omega) ?_
        | refine z_dq (hS.racks) ?_
        | refine z_dq (hS.rack r0 r1) ?_
        | refine z_kq (hr.k0) ?_
      have hf : fA (fun a => 130 + 3 * r.toNat ≤ a ∧ a ≤ 132 + 3 * r.toNat) u (sI u (130 + 3 * r.toNat) 2 1) := fA_sI u _ _ (by omega)
      obtain ⟨h1, h2, h3, h4, h5, h6⟩ := hC
      refine h _ (cA_rk hA (fA_wk hf (fun a => by omega)) (cRk_up (S := -1) (N := A.2.2.1.2.1 r) (T := fun j => A.2.2.1.2.2 (8 * r + j)) hK r0 r1 hf ⟨h1, h2, ?_, fun z => absurd rfl z, ?_, fun j j0 j1 => ?_⟩ (if_pos rfl) rfl (fun j j0 j1 => rfl) (fun _ e => if_neg e) (fun _ _ => rfl) (fun q j e j0 j1 => rfl))) (fA_wk hf (fun a => by omega))
      · simp [hI_sI]
      · simpa [hI_sI] using h5
      · simpa [hI_sI] using h6 j j0 j1
    · have e : A.2.2.1.1 r = -1 := by
        apply Classical.byContradiction
        intro z
        rw [if_neg z] at eM
        omega
      rw [if_pos e] at h
      exact h u hA (fA_rfl _ u)
  · rw [if_pos (by omega)] at h
    exact h u hA (fA_rfl _ u)
theorem w_becomeLike {d : Nat} {Q : aQ} {R O : Nat} (hr : isRk R) (ho : isRk O) {u0 : aS} (e0 : hR u0 R 0 = some (R + 1)) (e1 : hR u0 R 1 = some (R + 2)) (e2 : hR u0 O 0 = some (O + 1)) (e3 : hR u0 O 1 = some (O + 2)) {c s : Nat} (hq : ∀ u, fA (fun a => a = R + 1 ∨ a = R + 2) u0 u → (∀ j, hI u (R + 1) j = (if 0 ≤ j ∧ j < 8 then hI u0 (O + 1) j else hI u0 (R + 1) j) ∧ hI u (R + 2) j = (if 0 ≤ j ∧ j < 8 then hI u0 (O + 2) j else hI u0 (R + 2) j)) → Q none u) : ∀ (n : Nat) (i : Int) (u : aS), i + n = 8 → 0 ≤ i → fA (fun a => a = R + 1 ∨ a = R + 2) u0 u → (∀ j, hI u (R + 1) j = (if 0 ≤ j ∧ j < i then hI u0 (O + 1) j else hI u0 (R + 1) j) ∧ hI u (R + 2) j = (if 0 ≤ j ∧ j < i then hI u0 (O + 2) j else hI u0 (R + 2) j)) → wp (wpm d) cd_X0_becomeLike Q 26 [vR R, vR O, vI i] [] u c s
  | 0, i, u, h1, h2, hf, h => by
    refine run [(26, [])] 40 ?_
    refine z_bq (fun hl => ?_) (fun hl => ?_)
    · omega
    · have e : i = 8 := by omega
      subst e
      exact hq u hf h
  | n + 1, i, u, h1, h2, hf, h => by
    have f0 : hR u R 0 = some (R + 1) := (hf.1 R (by omega) 0).2.2.trans e0
    have f1 : hR u R 1 = some (R + 2) := (hf.1 R (by omega) 1).2.2.trans e1
    have f2 : hR u O 0 = some (O + 1) := (hf.1 O (by unfold isRk at hr ho; omega) 0).2.2.trans e2
    have f3 : hR u O 1 = some (O + 2) := (hf.1 O (by unfold isRk at hr ho; omega) 1).2.2.trans e3
    have g1 : hI u (O + 1) i = hI u0 (O + 1) i := by
      by_cases e : O = R
      · subst e
        rw [(h i).1, if_neg (by omega)]
      · exact (hf.1 (O + 1) (by unfold isRk at hr ho; omega) i).1
    have g2 : hI u (O + 2) i = hI u0 (O + 2) i := by
      by_cases e : O = R
      · subst e
        rw [(h i).2, if_neg (by omega)]
      · exact (hf.1 (O + 2) (by unfold isRk at hr ho; omega) i).1
    have g3 : ¬ O + 2 = R + 1 := by
      unfold isRk at hr ho
      omega
    refine run [(26, [])] 40 ?_
    refine z_bq (fun hl => ?_) (fun hl => by omega)
    repeat first
      | refine z_gq (by omega) ?_
      | refine z_iq rfl (by omega) (by omega) ?_
      | refine z_kq (hr.k0) ?_
      | refine z_kq (ho.k0) ?_
      | refine z_iq (hr.k1) (by omega) (by omega) ?_
      | refine z_iq (hr.k2) (by omega) (by omega) ?_
      | refine z_iq (ho.k1) (by omega) (by omega) ?_
      | refine z_iq (ho.k2) (by omega) (by omega) ?_
      | refine z_dq (f0) ?_
      | refine z_dq (f1) ?_
      | refine z_dq (f2) ?_
      | refine z_dq (f3) ?_
    refine w_becomeLike hr ho e0 e1 e2 e3 hq n (i + 1) _ (by omega) (by omega) (fA_tr hf (fA_tr (fA_sI u _ _ (by omega)) (fA_sI _ _ _ (by omega)))) (fun j => ⟨?_, ?_⟩)
    · rw [hI_sI, if_neg (by omega), hI_sI, g1]
      by_cases e : j = i
      · rw [if_pos ⟨rfl, e⟩, if_pos (by omega), e]
      · rw [if_neg (fun z => e z.2), (h j).1]
        by_cases e2 : 0 ≤ j ∧ j < i
        · rw [if_pos e2, if_pos (by omega)]
        · rw [if_neg e2, if_neg (by omega)]
    · rw [hI_sI, hI_sI, hI_sI, if_neg (show ¬ (O + 2 = R + 1 ∧ i = i) from fun z => g3 z.1), g2]
      by_cases e : j = i
      · rw [if_pos ⟨rfl, e⟩, if_pos (by omega), e]
      · rw [if_neg (fun z => e z.2), if_neg (by omega), (h j).2]
        by_cases e2 : 0 ≤ j ∧ j < i
        · rw [if_pos e2, if_pos (by omega)]
        · rw [if_neg e2, if_neg (by omega)]
theorem k_like {d : Nat} {r o : Int} {u : aS} {Q : aQ} {A : Al} (hA : cA u A) (hV : vRk A.2.2.1) (h : ∀ u', cA u' (A.1, A.2.1, (oLike A.2.2.1 r o).2, A.2.2.2) → fA (fun a => 130 ≤ a ∧ a ≤ 138) u u' → Q (some (vI (oLike A.2.2.1 r o).1)) u') : wpm (d + 4) M_X7_likeness [vR 8, vI r, vI o] u Q := by
  have hS := hA.1
  have hK := hA.2.2.2.2.1
  unfold oLike at h
  refine e_X7_likeness rfl (run [] 60 ?_)
  refine k_isRack (fun r0 r1 => ?_) (fun r0 => ?_)
  · refine k_isRack (fun o0 o1 => ?_) (fun o0 => ?_)
    · rw [if_neg (by omega)] at h
      have hr := isRk_r r0 r1
      have ho := isRk_r o0 o1
      have hC := hK o o0 o1
      have hD := hK r r0 r1
      have eM := hC.2.2.1
      repeat first
        | refine z_gq (by omega) ?_
        | refine z_iq rfl (by omega) (by omega) ?_
        | refine z_dq (hS.racks) ?_
        | refine z_dq (hS.rack r0 r1) ?_
        | refine z_dq (hS.rack o0 o1) ?_
        | refine z_kq (hr.k0) ?_
        | refine z_kq (ho.k0) ?_
      refine z_bq (fun hz => ?_) (fun hz => ?_)
      · have e : ¬ A.2.2.1.1 o = -1 := by
          intro z
          rw [if_pos z] at eM
          omega
        rw [if_neg e] at h
        repeat first
          | refine z_gq (by omega) ?_
          | refine z_iq rfl (by omega) (by omega) ?_
          | refine z_dq (hS.racks) ?_
          | refine z_dq (hS.rack r0 r1) ?_
          | refine z_dq (hS.rack o0 o1) ?_
          | refine z_kq (hr.k0) ?_
          | refine z_kq (ho.k0) ?_
        refine e_X0_becomeLike (args := [vR (130 + 3 * r.toNat), vR (130 + 3 * o.toNat)]) rfl (run [(26, [])] 60 ?_)
        repeat first
          | refine z_gq (by omega) ?_
          | refine z_iq rfl (by omega) (by omega) ?_
          | refine z_kq (hr.k0) ?_
          | refine z_kq (ho.k0) ?_
          | refine z_0q (by rw [eM]; split <;> omega) ?_
        refine w_becomeLike hr ho (u0 := sI (sI (sI u (130 + 3 * r.toNat) 2 (hI u (130 + 3 * o.toNat) 2)) (130 + 3 * r.toNat) 3 (hI (sI u (130 + 3 * r.toNat) 2 (hI u (130 + 3 * o.toNat) 2)) (130 + 3 * o.toNat) 3)) (130 + 3 * r.toNat) 4 (hI (sI (sI u (130 + 3 * r.toNat) 2 (hI u (130 + 3 * o.toNat) 2)) (130 + 3 * r.toNat) 3 (hI (sI u (130 + 3 * r.toNat) 2 (hI u (130 + 3 * o.toNat) 2)) (130 + 3 * o.toNat) 3)) (130 + 3 * o.toNat) 4)) hD.1 hD.2.1 hC.1 hC.2.1 (fun u' f' h' => ?_) 8 0 _ (by omega) (by omega) (fA_rfl _ _) (fun j => ⟨by rw [if_neg (by omega)], by rw [if_neg (by omega)]⟩)
        have hf : fA (fun a => 130 + 3 * r.toNat ≤ a ∧ a ≤ 132 + 3 * r.toNat) u u' := fA_tr (fA_sI u _ _ (by omega)) (fA_tr (fA_sI _ _ _ (by omega)) (fA_tr (fA_sI _ _ _ (by omega)) (fA_wk f' (fun a => by omega))))
        obtain ⟨h1, h2, h3, h4, h5, h6⟩ := hD
        obtain ⟨p1, p2, p3, p4, p5, p6⟩ := hC
        have gR : ∀ i, hI u' (130 + 3 * r.toNat) i = if i = 4 then A.2.2.1.2.1 o else if i = 3 then A.2.2.1.1 o else if i = 2 then 0 else hI u (130 + 3 * r.toNat) i := by
          intro i
          rw [(f'.1 (130 + 3 * r.toNat) (by omega) i).1, hI_sI, hI_sI, hI_sI, hI_sI, hI_sI, hI_sI, p5, p4 e, eM, if_neg e]
          simp
        have g : cRk u' (up A.2.2.1.1 r (A.2.2.1.1 o), up A.2.2.1.2.1 r (A.2.2.1.2.1 o), up8 A.2.2.1.2.2 r (fun i => A.2.2.1.2.2 (8 * o + i))) := by
          refine cRk_up (S := A.2.2.1.1 o) (N := A.2.2.1.2.1 o) (T := fun j => A.2.2.1.2.2 (8 * o + j)) hK r0 r1 hf ⟨?_, ?_, ?_, fun z => ?_, ?_, fun j j0 j1 => ?_⟩ (if_pos rfl) (if_pos rfl) (fun j j0 j1 => ?_) (fun _ e => if_neg e) (fun _ e => if_neg e) (fun q j e j0 j1 => if_neg (by omega))
          · rw [(f'.1 (130 + 3 * r.toNat) (by omega) _).2.2]
            exact h1
          · rw [(f'.1 (130 + 3 * r.toNat) (by omega) _).2.2]
            exact h2
          · rw [gR, if_neg e]
            rfl
          · rw [gR]
            rfl
          · rw [gR]
            rfl
          · rw [(h' j).1, (h' j).2, if_pos ⟨j0, j1⟩, if_pos ⟨j0, j1⟩]
            have a1 := p6 j j0 j1
            simpa [hI_sI, show ¬ 130 + 3 * o.toNat + 1 = 130 + 3 * r.toNat by omega, show ¬ 130 + 3 * o.toNat + 2 = 130 + 3 * r.toNat by omega] using a1
          · show (if 8 * r ≤ 8 * r + j ∧ 8 * r + j < 8 * r + 8 then A.2.2.1.2.2 (8 * o + (8 * r + j - 8 * r)) else _) = _
            rw [if_pos (by omega), show 8 * r + j - 8 * r = j by omega]
        have hA' := cA_rk hA (fA_wk hf (fun a => by omega)) g
        have hS' := hA'.1
        repeat first
          | refine z_gq (by omega) ?_
          | refine z_iq rfl (by omega) (by omega) ?_
          | refine z_dq (hS'.racks) ?_
          | refine z_dq (hS'.rack r0 r1) ?_
          | refine z_dq (hS'.rack o0 o1) ?_
          | refine z_kq (hr.k0) ?_
          | refine z_kq (ho.k0) ?_
        refine k_things (K := (up A.2.2.1.1 r (A.2.2.1.1 o), up A.2.2.1.2.1 r (A.2.2.1.2.1 o), up8 A.2.2.1.2.2 r (fun i => A.2.2.1.2.2 (8 * o + i)))) hr ?_ (g r r0 r1) ?_
        · show 0 ≤ (if r = r then A.2.2.1.2.1 o else _) ∧ (if r = r then A.2.2.1.2.1 o else _) ≤ 8
          rw [if_pos rfl]
          exact (hV.1 o o0 o1).2
        · exact h u' hA' (fA_wk hf (fun a => by omega))
      · have e : A.2.2.1.1 o = -1 := by
          apply Classical.byContradiction
          intro z
          rw [if_neg z] at eM
          omega
        rw [if_pos e] at h
        exact h u hA (fA_rfl _ u)
    · rw [if_pos (by omega)] at h
      exact h u hA (fA_rfl _ u)
  · rw [if_pos (by omega)] at h
    exact h u hA (fA_rfl _ u)
theorem w_hangAllOn {d : Nat} {Q : aQ} {r o : Int} {A : Al} (hr : 0 ≤ r ∧ r ≤ 2) (ho : 0 ≤ o ∧ o ≤ 2) (hm : ¬ A.2.2.1.1 o = -1) {c s : Nat} : ∀ (n : Nat) (i h : Int) (T : Int → Int) (u : aS), vRk (A.2.2.1.1, A.2.2.1.2.1, T) → cA u (A.1, A.2.1, (A.2.2.1.1, A.2.2.1.2.1, T), A.2.2.2) → i + n = A.2.2.1.2.1 r → 0 ≤ i → 0 ≤ h → h ≤ i → (∀ u', cA u' (A.1, A.2.1, (A.2.2.1.1, A.2.2.1.2.1, (passL A.2.2.1.1 A.2.2.1.2.1 r o n i h T).2), A.2.2.2) → fA (fun a => 130 ≤ a ∧ a ≤ 138) u u' → Q (some (vI (passL A.2.2.1.1 A.2.2.1.2.1 r o n i h T).1)) u') → wp (wpm (d + 3)) cd_X0_hangAllOn Q 4 [vR (130 + 3 * r.toNat), vR (130 + 3 * o.toNat), vI h, vI i] [] u c s
  | 0, i, h, T, u, hV, hA, h1, h2, h3, h4, k => by
    have hR := isRk_r hr.1 hr.2
    have vR := (hV.1 r hr.1 hr.2).2
    have eN : hI u (130 + 3 * r.toNat) 4 = A.2.2.1.2.1 r := (hA.2.2.2.2.1 r hr.1 hr.2).2.2.2.2.1
    refine run [(4, [])] 60 ?_
    repeat first
      | refine z_gq (by omega) ?_
      | refine z_iq rfl (by omega) (by omega) ?_
      | refine z_kq (hR.k0) ?_
    refine z_bq (fun hl => ?_) (fun hl => ?_)
    · omega
    · exact k u hA (fA_rfl _ u)
  | n + 1, i, h, T, u, hV, hA, h1, h2, h3, h4, k => by
    have hR := isRk_r hr.1 hr.2
    have hO := isRk_r ho.1 ho.2
    have hK := hA.2.2.2.2.1
    have vR : 0 ≤ A.2.2.1.2.1 r ∧ A.2.2.1.2.1 r ≤ 8 := (hV.1 r hr.1 hr.2).2
    have vO : 0 ≤ A.2.2.1.2.1 o ∧ A.2.2.1.2.1 o ≤ 8 := (hV.1 o ho.1 ho.2).2
    have hC := hK r hr.1 hr.2
    have hD := hK o ho.1 ho.2
    have eN : hI u (130 + 3 * r.toNat) 4 = A.2.2.1.2.1 r := hC.2.2.2.2.1
    have e0 := hC.1
    have e1 := hC.2.1
    have ht : cTh (hI u (130 + 3 * r.toNat + 1) i) (hI u (130 + 3 * r.toNat + 2) i) (T (8 * r + i)) := hC.2.2.2.2.2 i h2 (by omega)
    rw [passL] at k
    refine run [(4, [])] 60 ?_
    repeat first
      | refine z_gq (by omega) ?_
      | refine z_iq rfl (by omega) (by omega) ?_
      | refine z_kq (hR.k0) ?_
    refine z_bq (fun hl => ?_) (fun hl => by omega)
    repeat first
      | refine z_gq (by omega) ?_
      | refine z_iq rfl (by omega) (by omega) ?_
      | refine z_kq (hR.k0) ?_
      | refine z_kq (hO.k0) ?_
      | refine z_iq (hR.k1) (by omega) (by omega) ?_
      | refine z_iq (hR.k2) (by omega) (by omega) ?_
      | refine z_dq (e0) ?_
      | refine z_dq (e1) ?_
    unfold cTh at ht
    refine z_bq (fun hz => ?_) (fun hz => ?_)
    · rw [if_pos (by omega)] at k
      repeat first
        | refine z_gq (by omega) ?_
        | refine z_iq rfl (by omega) (by omega) ?_
        | refine z_kq (hR.k0) ?_
      exact w_hangAllOn hr ho hm n (i + 1) h T u hV hA (by omega) (by omega) (by omega) (by omega) k
    · rw [if_neg (by omega)] at k
      have ea : (if 100 < T (8 * r + i) then 2 else 1) = hI u (130 + 3 * r.toNat + 1) i := by
        split <;> omega
      have eg : thg (hI u (130 + 3 * r.toNat + 1) i) (hI u (130 + 3 * r.toNat + 2) i) = T (8 * r + i) := by
        unfold thg
        split <;> omega
      rw [ea] at k
      repeat first
        | refine z_gq (by omega) ?_
        | refine z_iq rfl (by omega) (by omega) ?_
        | refine z_kq (hR.k0) ?_
        | refine z_kq (hO.k0) ?_
        | refine z_iq (hR.k1) (by omega) (by omega) ?_
        | refine z_iq (hR.k2) (by omega) (by omega) ?_
        | refine z_dq (e0) ?_
        | refine z_dq (e1) ?_
      refine k_tryToHang hO vO hD (fun z1 => absurd z1 hm) (fun z1 z2 => ?_) (fun z1 z2 z3 z4 => ?_) (fun z1 z2 z3 z4 => ?_)
      · rw [if_neg (show ¬ (i < A.2.2.1.2.1 o ∧ (A.2.2.1.1 o = 0 ∨ A.2.2.1.1 o = hI u (130 + 3 * r.toNat + 1) i)) from fun z => z2 ⟨h2, by show i ≤ A.2.2.1.2.1 o - 1; omega⟩)] at k
        exact k u hA (fA_rfl _ u)
      · rw [if_neg (show ¬ (i < A.2.2.1.2.1 o ∧ (A.2.2.1.1 o = 0 ∨ A.2.2.1.1 o = hI u (130 + 3 * r.toNat + 1) i)) from fun z => z4 z.2)] at k
        exact k u hA (fA_rfl _ u)
      · have z3' : i ≤ A.2.2.1.2.1 o - 1 := z3
        rw [if_pos (show i < A.2.2.1.2.1 o ∧ (A.2.2.1.1 o = 0 ∨ A.2.2.1.1 o = hI u (130 + 3 * r.toNat + 1) i) from ⟨by omega, z4⟩)] at k
        have hf : fA (fun a => 130 + 3 * o.toNat ≤ a ∧ a ≤ 132 + 3 * o.toNat) u (sI (sI u (130 + 3 * o.toNat + 1) i (hI u (130 + 3 * r.toNat + 1) i)) (130 + 3 * o.toNat + 2) i (hI u (130 + 3 * r.toNat + 2) i)) := fA_tr (fA_sI u _ _ (by omega)) (fA_sI _ _ _ (by omega))
        have g := cA_rk hA (fA_wk hf (fun a => by omega)) (cRk_up (S' := A.2.2.1.1) (N' := A.2.2.1.2.1) (T' := up T (8 * o + i) (T (8 * r + i))) hK ho.1 ho.2 hf (cR1_hang (T' := fun j => if j = i then thg (hI u (130 + 3 * r.toNat + 1) i) (hI u (130 + 3 * r.toNat + 2) i) else T (8 * o + j)) hD (by omega) (by omega) (fun j _ _ => rfl)) rfl rfl (fun j j0 j1 => by
          show (if 8 * o + j = 8 * o + i then T (8 * r + i) else T (8 * o + j)) = if j = i then thg (hI u (130 + 3 * r.toNat + 1) i) (hI u (130 + 3 * r.toNat + 2) i) else T (8 * o + j)
          rw [eg]
          by_cases e : j = i
          · rw [if_pos e, if_pos (by omega)]
          · rw [if_neg e, if_neg (by omega)]) (fun _ _ => rfl) (fun _ _ => rfl) (fun q j e j0 j1 => if_neg (by omega)))
        repeat first
          | refine z_gq (by omega) ?_
          | refine z_iq rfl (by omega) (by omega) ?_
          | refine z_kq (hR.k0) ?_
        refine w_hangAllOn hr ho hm n (i + 1) (h + 1) (up T (8 * o + i) (T (8 * r + i))) _ ⟨hV.1, fun j => ?_⟩ g (by omega) (by omega) (by omega) (by omega) (fun u' m1 m2 => k u' m1 (fA_tr (fA_wk hf (fun a => by omega)) m2))
        show 0 ≤ up T (8 * o + i) (T (8 * r + i)) j ∧ up T (8 * o + i) (T (8 * r + i)) j ≤ 200
        unfold up
        split
        · exact hV.2 _
        · exact hV.2 j
theorem k_pass {d : Nat} {r o : Int} {u : aS} {Q : aQ} {A : Al} (hA : cA u A) (hV : vRk A.2.2.1) (h : ∀ u', cA u' (A.1, A.2.1, (oPass A.2.2.1 r o).2, A.2.2.2) → fA (fun a => 130 ≤ a ∧ a ≤ 138) u u' → Q (some (vI (oPass A.2.2.1 r o).1)) u') : wpm (d + 5) M_X7_pass [vR 8, vI r, vI o] u Q := by
  have hS := hA.1
  have hK := hA.2.2.2.2.1
  unfold oPass at h
  refine e_X7_pass rfl (run [] 60 ?_)
  refine k_isRack (fun r0 r1 => ?_) (fun r0 => ?_)
  · refine k_isRack (fun o0 o1 => ?_) (fun o0 => ?_)
    · rw [if_neg (by omega)] at h
      have hr := isRk_r r0 r1
      have ho := isRk_r o0 o1
      have eM := (hK o o0 o1).2.2.1
      have eR := (hK r r0 r1).2.2.1
      have vN := (hV.1 r r0 r1).2
      repeat first
        | refine z_gq (by omega) ?_
        | refine z_iq rfl (by omega) (by omega) ?_
        | refine z_dq (hS.racks) ?_
        | refine z_dq (hS.rack r0 r1) ?_
        | refine z_dq (hS.rack o0 o1) ?_
        | refine z_kq (hr.k0) ?_
        | refine z_kq (ho.k0) ?_
      refine z_bq (fun hz => ?_) (fun hz => ?_)
      · have e : ¬ A.2.2.1.1 r = -1 := by
          intro z
          rw [if_pos z] at eR
          omega
        repeat first
          | refine z_gq (by omega) ?_
          | refine z_iq rfl (by omega) (by omega) ?_
          | refine z_dq (hS.racks) ?_
          | refine z_dq (hS.rack r0 r1) ?_
          | refine z_dq (hS.rack o0 o1) ?_
          | refine z_kq (hr.k0) ?_
          | refine z_kq (ho.k0) ?_
        refine z_bq (fun hy => ?_) (fun hy => ?_)
        · have e' : ¬ A.2.2.1.1 o = -1 := by
            intro z
            rw [if_pos z] at eM
            omega
          rw [if_neg (by omega)] at h
          repeat first
            | refine z_gq (by omega) ?_
            | refine z_iq rfl (by omega) (by omega) ?_
            | refine z_dq (hS.racks) ?_
            | refine z_dq (hS.rack r0 r1) ?_
            | refine z_dq (hS.rack o0 o1) ?_
            | refine z_kq (hr.k0) ?_
            | refine z_kq (ho.k0) ?_
          refine e_X0_hangAllOn (args := [vR (130 + 3 * r.toNat), vR (130 + 3 * o.toNat)]) rfl (run [(4, [])] 60 ?_)
          exact w_hangAllOn ⟨r0, r1⟩ ⟨o0, o1⟩ e' _ 0 0 A.2.2.1.2.2 u hV hA (by omega) (by omega) (by omega) (by omega) h
        · have e' : A.2.2.1.1 o = -1 := by
            apply Classical.byContradiction
            intro z
            rw [if_neg z] at eM
            omega
          rw [if_pos (by omega)] at h
          exact h u hA (fA_rfl _ u)
      · have e : A.2.2.1.1 r = -1 := by
          apply Classical.byContradiction
          intro z
          rw [if_neg z] at eR
          omega
        rw [if_pos (by omega)] at h
        exact h u hA (fA_rfl _ u)
    · rw [if_pos (by omega)] at h
      exact h u hA (fA_rfl _ u)
  · rw [if_pos (by omega)] at h
    exact h u hA (fA_rfl _ u)
theorem tOn_b (K : Rk) (k : Int) : 0 ≤ tOn K k ∧ tOn K k ≤ 8 := cn_b _ 8 0
theorem k_thingsOnRacks {d : Nat} {u : aS} {Q : aQ} {A : Al} (hA : cA u A) (hV : vRk A.2.2.1) (h : Q (some (vI (tOn A.2.2.1 0 + tOn A.2.2.1 1 + tOn A.2.2.1 2))) u) : wpm (d + 2) M_X7_thingsOnRacks [vR 8] u Q := by
  have hS := hA.1
  have hK := hA.2.2.2.2.1
  have b0 := tOn_b A.2.2.1 0
  have b1 := tOn_b A.2.2.1 1
  have b2 := tOn_b A.2.2.1 2
  refine e_X7_thingsOnRacks rfl (run [] 100 ?_)
  repeat first
    | refine z_gq (by omega) ?_
    | refine z_iq rfl (by omega) (by omega) ?_
    | refine z_dq (hS.racks) ?_
    | refine z_dq (hS.rack (s := 0) (by omega) (by omega)) ?_
  refine k_things (isRk_r (r := 0) (by omega) (by omega)) (hV.1 0 (by omega) (by omega)).2 (hK 0 (by omega) (by omega)) ?_
  repeat first
    | refine z_gq (by omega) ?_
    | refine z_iq rfl (by omega) (by omega) ?_
    | refine z_dq (hS.racks) ?_
    | refine z_dq (hS.rack (s := 1) (by omega) (by omega)) ?_
  refine k_things (isRk_r (r := 1) (by omega) (by omega)) (hV.1 1 (by omega) (by omega)).2 (hK 1 (by omega) (by omega)) ?_
  repeat first
    | refine z_gq (by omega) ?_
    | refine z_iq rfl (by omega) (by omega) ?_
    | refine z_dq (hS.racks) ?_
    | refine z_dq (hS.rack (s := 2) (by omega) (by omega)) ?_
  refine k_things (isRk_r (r := 2) (by omega) (by omega)) (hV.1 2 (by omega) (by omega)).2 (hK 2 (by omega) (by omega)) ?_
  repeat first
    | refine z_gq (by omega) ?_
    | refine z_iq rfl (by omega) (by omega) ?_
    | refine z_dq (hS.racks) ?_
  rw [Int.zero_add]
  exact h
