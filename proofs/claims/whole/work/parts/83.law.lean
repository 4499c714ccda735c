/-! the law: its calls -/
def Iv (u0 u : aS) (A : Al) : Prop := cA u A ∧ mA u A ∧ vA A ∧ ∀ i, hI u 0 i = hI u0 0 i
theorem z_big {c k : Nat} {X : Nat → Prop} (h : k ≤ c) (x : X (c - k)) : z_ct c k X := z_cq (c' := c - k) (by omega) x
theorem le_big {c k : Nat} : c ≤ c - k + k := by omega
theorem b_cmp_s (x : Int) : b_cmp x x = 0 := by
  unfold b_cmp
  rw [if_neg (by omega), if_pos rfl]
theorem lw_write {Q : aQ} {u0 u : aS} {A : Al} {i : Int} {c s : Nat} (h : Iv u0 u A) (i0 : 0 ≤ i) (i1 : i + 6 ≤ hI u0 0 (-1)) (i2 : hI u0 0 (-1) ≤ 3072) (hr : ∀ j, hI u0 0 j ≤ 2147483647) (hc : 600 ≤ c) (hs : 4200 ≤ s) (hk : ∀ u' A' c' s', Iv u0 u' A' → c ≤ c' + 600 → s ≤ s' + 4200 → wp (wpm 9) cd_L_law Q 1197 [vR 0, vR 8, vR 139, vI i] [] u' c' s') : wp (wpm 9) cd_L_law Q 172 [vR 0, vR 8, vR 139, vI i] [] u c s := by
  obtain ⟨hA, hM, hv, h0⟩ := h
  have e1 := h0 (-1)
  refine run [(1197, [])] 80 ?_
  repeat first
    | refine z_gq (by omega) ?_
    | refine And.intro (by omega) ?_
  refine k_write hA hv.tx (fun u1 a1 f1 => ?_)
  have M1 := mA_H f1 (fun a => by omega) hM
  have g0 : ∀ j, hI u1 0 j = hI u 0 j := fun j => (f1.1 0 (by omega) j).1
  have e2 := g0 (-1)
  repeat first
    | refine z_gq (by omega) ?_
    | refine And.intro (by omega) ?_
  rw [g0]
  refine c_write M1 hv.tx (fun u2 a2 f2 => ?_)
  refine z_bq (fun _ => ?_) (fun hn => absurd rfl hn)
  exact hk u2 _ _ _ ⟨cA_M f2 a1, a2, v_write hv, fun j => ((f2.1 0 j (by omega)).1).trans ((g0 j).trans (h0 j))⟩ (by omega) (by omega)
theorem lw_erase {Q : aQ} {u0 u : aS} {A : Al} {i : Int} {c s : Nat} (h : Iv u0 u A) (i0 : 0 ≤ i) (i1 : i + 6 ≤ hI u0 0 (-1)) (i2 : hI u0 0 (-1) ≤ 3072) (hr : ∀ j, hI u0 0 j ≤ 2147483647) (hc : 600 ≤ c) (hs : 4200 ≤ s) (hk : ∀ u' A' c' s', Iv u0 u' A' → c ≤ c' + 600 → s ≤ s' + 4200 → wp (wpm 9) cd_L_law Q 1197 [vR 0, vR 8, vR 139, vI i] [] u' c' s') : wp (wpm 9) cd_L_law Q 195 [vR 0, vR 8, vR 139, vI i] [] u c s := by
  obtain ⟨hA, hM, hv, h0⟩ := h
  have e1 := h0 (-1)
  refine run [(1197, [])] 80 ?_
  refine k_erase hA (fun u1 a1 f1 => ?_)
  have M1 := mA_H f1 (fun a => by omega) hM
  have g0 : ∀ j, hI u1 0 j = hI u 0 j := fun j => (f1.1 0 (by omega) j).1
  refine c_erase M1 (fun u2 a2 f2 => ?_)
  refine z_bq (fun _ => ?_) (fun hn => absurd rfl hn)
  exact hk u2 _ _ _ ⟨cA_M f2 a1, a2, v_erase hv, fun j => ((f2.1 0 j (by omega)).1).trans ((g0 j).trans (h0 j))⟩ (by omega) (by omega)
theorem lw_fault {Q : aQ} {u0 u : aS} {A : Al} {i : Int} {c s : Nat} (h : Iv u0 u A) (i0 : 0 ≤ i) (i1 : i + 6 ≤ hI u0 0 (-1)) (i2 : hI u0 0 (-1) ≤ 3072) (hr : ∀ j, hI u0 0 j ≤ 2147483647) (hc : 600 ≤ c) (hs : 4200 ≤ s) (hk : ∀ u' A' c' s', Iv u0 u' A' → c ≤ c' + 600 → s ≤ s' + 4200 → wp (wpm 9) cd_L_law Q 1197 [vR 0, vR 8, vR 139, vI i] [] u' c' s') : wp (wpm 9) cd_L_law Q 208 [vR 0, vR 8, vR 139, vI i] [] u c s := by
  obtain ⟨hA, hM, hv, h0⟩ := h
  have e1 := h0 (-1)
  refine run [(1197, [])] 80 ?_
  refine k_fault hA hv.tx hv.td (fun u1 a1 f1 => ?_)
  have M1 := mA_H f1.1 (fun a => by omega) hM
  have g0 : ∀ j, hI u1 0 j = hI u 0 j := fun j => (f1.1.1 0 (by omega) j).1
  refine c_fault M1 hv.tx hv.td (fun u2 a2 f2 => ?_)
  refine z_bq (fun _ => ?_) (fun hn => absurd rfl hn)
  exact hk u2 _ _ _ ⟨cA_M f2 a1, a2, hv, fun j => ((f2.1 0 j (by omega)).1).trans ((g0 j).trans (h0 j))⟩ (by omega) (by omega)
set_option maxRecDepth 100000 in
theorem lw_house {Q : aQ} {u0 u : aS} {A : Al} {i : Int} {c s : Nat} (h : Iv u0 u A) (i0 : 0 ≤ i) (i1 : i + 6 ≤ hI u0 0 (-1)) (i2 : hI u0 0 (-1) ≤ 3072) (hr : ∀ j, hI u0 0 j ≤ 2147483647) (hc : 600 ≤ c) (hs : 4200 ≤ s) (hk : ∀ u' A' c' s', Iv u0 u' A' → c ≤ c' + 600 → s ≤ s' + 4200 → wp (wpm 9) cd_L_law Q 1197 [vR 0, vR 8, vR 139, vI i] [] u' c' s') : wp (wpm 9) cd_L_law Q 221 [vR 0, vR 8, vR 139, vI i] [] u c s := by
  obtain ⟨hA, hM, hv, h0⟩ := h
  have e1 := h0 (-1)
  refine run [(1197, [])] 80 ?_
  refine z_big (c := c) (k := 600) hc ?_
  refine z_big (c := s) (k := 4200) hs ?_
  refine k_house hA hv.tx hv.sz hv.sf hv.tr hv.qn (fun u1 a1 f1 => ?_)
  have M1 := mA_H f1 (fun a => by omega) hM
  have g0 : ∀ j, hI u1 0 j = hI u 0 j := fun j => (f1.1 0 (by omega) j).1
  refine c_house M1 hv.tx hv.sz hv.sf hv.tr hv.qn (fun u2 a2 f2 => ?_)
  refine z_bq (fun _ => ?_) (fun hn => absurd rfl hn)
  exact hk u2 _ _ _ ⟨cA_M f2 a1, a2, v_house hv, fun j => ((f2.1 0 j (by omega)).1).trans ((g0 j).trans (h0 j))⟩ le_big le_big
theorem lw_sound {Q : aQ} {u0 u : aS} {A : Al} {i : Int} {c s : Nat} (h : Iv u0 u A) (i0 : 0 ≤ i) (i1 : i + 6 ≤ hI u0 0 (-1)) (i2 : hI u0 0 (-1) ≤ 3072) (hr : ∀ j, hI u0 0 j ≤ 2147483647) (hc : 600 ≤ c) (hs : 4200 ≤ s) (hk : ∀ u' A' c' s', Iv u0 u' A' → c ≤ c' + 600 → s ≤ s' + 4200 → wp (wpm 9) cd_L_law Q 1197 [vR 0, vR 8, vR 139, vI i] [] u' c' s') : wp (wpm 9) cd_L_law Q 234 [vR 0, vR 8, vR 139, vI i] [] u c s := by
  obtain ⟨hA, hM, hv, h0⟩ := h
  have e1 := h0 (-1)
  refine run [(1197, [])] 80 ?_
  repeat first
    | refine z_gq (by omega) ?_
    | refine And.intro (by omega) ?_
  refine k_sound hA hv.sz hv.sf hv.tr ?_
  repeat first
    | refine z_gq (by omega) ?_
    | refine And.intro (by omega) ?_
  refine c_sound hM hv.sz hv.sf hv.tr ?_
  refine z_bq (fun _ => ?_) (fun hn => absurd rfl hn)
  exact hk u A _ _ ⟨hA, hM, hv, h0⟩ (by omega) (by omega)
theorem lw_span {Q : aQ} {u0 u : aS} {A : Al} {i : Int} {c s : Nat} (h : Iv u0 u A) (i0 : 0 ≤ i) (i1 : i + 6 ≤ hI u0 0 (-1)) (i2 : hI u0 0 (-1) ≤ 3072) (hr : ∀ j, hI u0 0 j ≤ 2147483647) (hc : 600 ≤ c) (hs : 4200 ≤ s) (hk : ∀ u' A' c' s', Iv u0 u' A' → c ≤ c' + 600 → s ≤ s' + 4200 → wp (wpm 9) cd_L_law Q 1197 [vR 0, vR 8, vR 139, vI i] [] u' c' s') : wp (wpm 9) cd_L_law Q 277 [vR 0, vR 8, vR 139, vI i] [] u c s := by
  obtain ⟨hA, hM, hv, h0⟩ := h
  have e1 := h0 (-1)
  refine run [(1197, [])] 80 ?_
  repeat first
    | refine z_gq (by omega) ?_
    | refine And.intro (by omega) ?_
  refine k_span hA hv.tr ?_
  repeat first
    | refine z_gq (by omega) ?_
    | refine And.intro (by omega) ?_
  refine c_span hM hv.tr ?_
  refine z_bq (fun _ => ?_) (fun hn => absurd rfl hn)
  exact hk u A _ _ ⟨hA, hM, hv, h0⟩ (by omega) (by omega)
theorem lw_tone {Q : aQ} {u0 u : aS} {A : Al} {i : Int} {c s : Nat} (h : Iv u0 u A) (i0 : 0 ≤ i) (i1 : i + 6 ≤ hI u0 0 (-1)) (i2 : hI u0 0 (-1) ≤ 3072) (hr : ∀ j, hI u0 0 j ≤ 2147483647) (hc : 600 ≤ c) (hs : 4200 ≤ s) (hk : ∀ u' A' c' s', Iv u0 u' A' → c ≤ c' + 600 → s ≤ s' + 4200 → wp (wpm 9) cd_L_law Q 1197 [vR 0, vR 8, vR 139, vI i] [] u' c' s') : wp (wpm 9) cd_L_law Q 320 [vR 0, vR 8, vR 139, vI i] [] u c s := by
  obtain ⟨hA, hM, hv, h0⟩ := h
  have e1 := h0 (-1)
  refine run [(1197, [])] 80 ?_
  repeat first
    | refine z_gq (by omega) ?_
    | refine And.intro (by omega) ?_
  refine k_tone hA hv.sz (fun u1 a1 f1 => ?_)
  have M1 := mA_H f1 (fun a => by omega) hM
  have g0 : ∀ j, hI u1 0 j = hI u 0 j := fun j => (f1.1 0 (by omega) j).1
  have e2 := g0 (-1)
  repeat first
    | refine z_gq (by omega) ?_
    | refine And.intro (by omega) ?_
  rw [g0, g0, g0]
  refine c_tone M1 hv.sz (fun u2 a2 f2 => ?_)
  refine z_bq (fun _ => ?_) (fun hn => absurd rfl hn)
  exact hk u2 _ _ _ ⟨cA_M f2 a1, a2, v_tone hv, fun j => ((f2.1 0 j (by omega)).1).trans ((g0 j).trans (h0 j))⟩ (by omega) (by omega)
theorem lw_put {Q : aQ} {u0 u : aS} {A : Al} {i : Int} {c s : Nat} (h : Iv u0 u A) (i0 : 0 ≤ i) (i1 : i + 6 ≤ hI u0 0 (-1)) (i2 : hI u0 0 (-1) ≤ 3072) (hr : ∀ j, hI u0 0 j ≤ 2147483647) (hc : 600 ≤ c) (hs : 4200 ≤ s) (hk : ∀ u' A' c' s', Iv u0 u' A' → c ≤ c' + 600 → s ≤ s' + 4200 → wp (wpm 9) cd_L_law Q 1197 [vR 0, vR 8, vR 139, vI i] [] u' c' s') : wp (wpm 9) cd_L_law Q 363 [vR 0, vR 8, vR 139, vI i] [] u c s := by
  obtain ⟨hA, hM, hv, h0⟩ := h
  have e1 := h0 (-1)
  refine run [(1197, [])] 80 ?_
  repeat first
    | refine z_gq (by omega) ?_
    | refine And.intro (by omega) ?_
  refine z_cq (c := c) (k := 25) (c' := c - 25) (by omega) ?_
  refine z_cq (c := s) (k := 175) (c' := s - 175) (by omega) ?_
  refine k_put hA hv.sz hv.tr (fun u1 a1 f1 => ?_)
  have M1 := mA_H f1 (fun a => by omega) hM
  have g0 : ∀ j, hI u1 0 j = hI u 0 j := fun j => (f1.1 0 (by omega) j).1
  have e2 := g0 (-1)
  repeat first
    | refine z_gq (by omega) ?_
    | refine And.intro (by omega) ?_
  rw [g0, g0, g0, g0, g0]
  refine c_put M1 hv.sz hv.tr (fun u2 a2 f2 => ?_)
  refine z_bq (fun _ => ?_) (fun hn => absurd rfl hn)
  exact hk u2 _ _ _ ⟨cA_M f2 a1, a2, v_st hv (s_put hv.sz hv.tr hv.qn), fun j => ((f2.1 0 j (by omega)).1).trans ((g0 j).trans (h0 j))⟩ (by omega) (by omega)
theorem lw_fade {Q : aQ} {u0 u : aS} {A : Al} {i : Int} {c s : Nat} (h : Iv u0 u A) (i0 : 0 ≤ i) (i1 : i + 6 ≤ hI u0 0 (-1)) (i2 : hI u0 0 (-1) ≤ 3072) (hr : ∀ j, hI u0 0 j ≤ 2147483647) (hc : 600 ≤ c) (hs : 4200 ≤ s) (hk : ∀ u' A' c' s', Iv u0 u' A' → c ≤ c' + 600 → s ≤ s' + 4200 → wp (wpm 9) cd_L_law Q 1197 [vR 0, vR 8, vR 139, vI i] [] u' c' s') : wp (wpm 9) cd_L_law Q 426 [vR 0, vR 8, vR 139, vI i] [] u c s := by
  obtain ⟨hA, hM, hv, h0⟩ := h
  have e1 := h0 (-1)
  refine run [(1197, [])] 80 ?_
  repeat first
    | refine z_gq (by omega) ?_
    | refine And.intro (by omega) ?_
  refine z_cq (c := c) (k := 1) (c' := c - 1) (by omega) ?_
  refine z_cq (c := s) (k := 7) (c' := s - 7) (by omega) ?_
  refine k_fade hA hv.tr (fun u1 a1 f1 => ?_)
  have M1 := mA_H f1 (fun a => by omega) hM
  have g0 : ∀ j, hI u1 0 j = hI u 0 j := fun j => (f1.1 0 (by omega) j).1
  have e2 := g0 (-1)
  repeat first
    | refine z_gq (by omega) ?_
    | refine And.intro (by omega) ?_
  rw [g0, g0, g0, g0]
  refine c_fade M1 hv.tr (by have := hr (i + 3); have := h0 (i + 3); omega) (by have := hr (i + 4); have := h0 (i + 4); omega) (fun u2 a2 f2 => ?_)
  refine z_bq (fun _ => ?_) (fun hn => absurd rfl hn)
  exact hk u2 _ _ _ ⟨cA_M f2 a1, a2, v_st hv (s_fade hv.tr hv.qn), fun j => ((f2.1 0 j (by omega)).1).trans ((g0 j).trans (h0 j))⟩ (by omega) (by omega)
theorem lw_gain {Q : aQ} {u0 u : aS} {A : Al} {i : Int} {c s : Nat} (h : Iv u0 u A) (i0 : 0 ≤ i) (i1 : i + 6 ≤ hI u0 0 (-1)) (i2 : hI u0 0 (-1) ≤ 3072) (hr : ∀ j, hI u0 0 j ≤ 2147483647) (hc : 600 ≤ c) (hs : 4200 ≤ s) (hk : ∀ u' A' c' s', Iv u0 u' A' → c ≤ c' + 600 → s ≤ s' + 4200 → wp (wpm 9) cd_L_law Q 1197 [vR 0, vR 8, vR 139, vI i] [] u' c' s') : wp (wpm 9) cd_L_law Q 479 [vR 0, vR 8, vR 139, vI i] [] u c s := by
  obtain ⟨hA, hM, hv, h0⟩ := h
  have e1 := h0 (-1)
  refine run [(1197, [])] 80 ?_
  repeat first
    | refine z_gq (by omega) ?_
    | refine And.intro (by omega) ?_
  refine z_cq (c := c) (k := 1) (c' := c - 1) (by omega) ?_
  refine z_cq (c := s) (k := 7) (c' := s - 7) (by omega) ?_
  refine k_gain hA hv.tr (fun u1 a1 f1 => ?_)
  have M1 := mA_H f1 (fun a => by omega) hM
  have g0 : ∀ j, hI u1 0 j = hI u 0 j := fun j => (f1.1 0 (by omega) j).1
  have e2 := g0 (-1)
  repeat first
    | refine z_gq (by omega) ?_
    | refine And.intro (by omega) ?_
  rw [g0, g0, g0]
  refine c_gain M1 hv.tr (fun u2 a2 f2 => ?_)
  refine z_bq (fun _ => ?_) (fun hn => absurd rfl hn)
  exact hk u2 _ _ _ ⟨cA_M f2 a1, a2, v_st hv (s_gain hv.tr hv.qn), fun j => ((f2.1 0 j (by omega)).1).trans ((g0 j).trans (h0 j))⟩ (by omega) (by omega)
theorem lw_wipe {Q : aQ} {u0 u : aS} {A : Al} {i : Int} {c s : Nat} (h : Iv u0 u A) (i0 : 0 ≤ i) (i1 : i + 6 ≤ hI u0 0 (-1)) (i2 : hI u0 0 (-1) ≤ 3072) (hr : ∀ j, hI u0 0 j ≤ 2147483647) (hc : 600 ≤ c) (hs : 4200 ≤ s) (hk : ∀ u' A' c' s', Iv u0 u' A' → c ≤ c' + 600 → s ≤ s' + 4200 → wp (wpm 9) cd_L_law Q 1197 [vR 0, vR 8, vR 139, vI i] [] u' c' s') : wp (wpm 9) cd_L_law Q 522 [vR 0, vR 8, vR 139, vI i] [] u c s := by
  obtain ⟨hA, hM, hv, h0⟩ := h
  have e1 := h0 (-1)
  refine run [(1197, [])] 80 ?_
  repeat first
    | refine z_gq (by omega) ?_
    | refine And.intro (by omega) ?_
  refine z_cq (c := c) (k := 24) (c' := c - 24) (by omega) ?_
  refine z_cq (c := s) (k := 168) (c' := s - 168) (by omega) ?_
  refine k_wipe hA hv.tr (fun u1 a1 f1 => ?_)
  have M1 := mA_H f1 (fun a => by omega) hM
  have g0 : ∀ j, hI u1 0 j = hI u 0 j := fun j => (f1.1 0 (by omega) j).1
  have e2 := g0 (-1)
  repeat first
    | refine z_gq (by omega) ?_
    | refine And.intro (by omega) ?_
  rw [g0, g0, g0]
  refine c_wipe M1 hv.tr (fun u2 a2 f2 => ?_)
  refine z_bq (fun _ => ?_) (fun hn => absurd rfl hn)
  exact hk u2 _ _ _ ⟨cA_M f2 a1, a2, v_st hv (s_wipe hv.tr hv.qn), fun j => ((f2.1 0 j (by omega)).1).trans ((g0 j).trans (h0 j))⟩ (by omega) (by omega)
theorem lw_cut {Q : aQ} {u0 u : aS} {A : Al} {i : Int} {c s : Nat} (h : Iv u0 u A) (i0 : 0 ≤ i) (i1 : i + 6 ≤ hI u0 0 (-1)) (i2 : hI u0 0 (-1) ≤ 3072) (hr : ∀ j, hI u0 0 j ≤ 2147483647) (hc : 600 ≤ c) (hs : 4200 ≤ s) (hk : ∀ u' A' c' s', Iv u0 u' A' → c ≤ c' + 600 → s ≤ s' + 4200 → wp (wpm 9) cd_L_law Q 1197 [vR 0, vR 8, vR 139, vI i] [] u' c' s') : wp (wpm 9) cd_L_law Q 565 [vR 0, vR 8, vR 139, vI i] [] u c s := by
  obtain ⟨hA, hM, hv, h0⟩ := h
  have e1 := h0 (-1)
  refine run [(1197, [])] 80 ?_
  repeat first
    | refine z_gq (by omega) ?_
    | refine And.intro (by omega) ?_
  refine z_cq (c := c) (k := 26) (c' := c - 26) (by omega) ?_
  refine z_cq (c := s) (k := 182) (c' := s - 182) (by omega) ?_
  refine k_cut hA hv.tr (fun u1 a1 f1 => ?_)
  have M1 := mA_H f1 (fun a => by omega) hM
  have g0 : ∀ j, hI u1 0 j = hI u 0 j := fun j => (f1.1 0 (by omega) j).1
  have e2 := g0 (-1)
  repeat first
    | refine z_gq (by omega) ?_
    | refine And.intro (by omega) ?_
  rw [g0, g0]
  refine c_cut M1 hv.tr (fun u2 a2 f2 => ?_)
  refine z_bq (fun _ => ?_) (fun hn => absurd rfl hn)
  exact hk u2 _ _ _ ⟨cA_M f2 a1, a2, v_st hv (s_cut hv.tr hv.qn), fun j => ((f2.1 0 j (by omega)).1).trans ((g0 j).trans (h0 j))⟩ (by omega) (by omega)
theorem lw_move {Q : aQ} {u0 u : aS} {A : Al} {i : Int} {c s : Nat} (h : Iv u0 u A) (i0 : 0 ≤ i) (i1 : i + 6 ≤ hI u0 0 (-1)) (i2 : hI u0 0 (-1) ≤ 3072) (hr : ∀ j, hI u0 0 j ≤ 2147483647) (hc : 600 ≤ c) (hs : 4200 ≤ s) (hk : ∀ u' A' c' s', Iv u0 u' A' → c ≤ c' + 600 → s ≤ s' + 4200 → wp (wpm 9) cd_L_law Q 1197 [vR 0, vR 8, vR 139, vI i] [] u' c' s') : wp (wpm 9) cd_L_law Q 598 [vR 0, vR 8, vR 139, vI i] [] u c s := by
  obtain ⟨hA, hM, hv, h0⟩ := h
  have e1 := h0 (-1)
  refine run [(1197, [])] 80 ?_
  repeat first
    | refine z_gq (by omega) ?_
    | refine And.intro (by omega) ?_
  refine z_cq (c := c) (k := 25) (c' := c - 25) (by omega) ?_
  refine z_cq (c := s) (k := 175) (c' := s - 175) (by omega) ?_
  refine k_move hA hv.tr (fun u1 a1 f1 => ?_)
  have M1 := mA_H f1 (fun a => by omega) hM
  have g0 : ∀ j, hI u1 0 j = hI u 0 j := fun j => (f1.1 0 (by omega) j).1
  have e2 := g0 (-1)
  repeat first
    | refine z_gq (by omega) ?_
    | refine And.intro (by omega) ?_
  rw [g0, g0, g0]
  refine c_move M1 hv.tr (fun u2 a2 f2 => ?_)
  refine z_bq (fun _ => ?_) (fun hn => absurd rfl hn)
  exact hk u2 _ _ _ ⟨cA_M f2 a1, a2, v_st hv (s_move hv.tr hv.qn), fun j => ((f2.1 0 j (by omega)).1).trans ((g0 j).trans (h0 j))⟩ (by omega) (by omega)
theorem lw_shift {Q : aQ} {u0 u : aS} {A : Al} {i : Int} {c s : Nat} (h : Iv u0 u A) (i0 : 0 ≤ i) (i1 : i + 6 ≤ hI u0 0 (-1)) (i2 : hI u0 0 (-1) ≤ 3072) (hr : ∀ j, hI u0 0 j ≤ 2147483647) (hc : 600 ≤ c) (hs : 4200 ≤ s) (hk : ∀ u' A' c' s', Iv u0 u' A' → c ≤ c' + 600 → s ≤ s' + 4200 → wp (wpm 9) cd_L_law Q 1197 [vR 0, vR 8, vR 139, vI i] [] u' c' s') : wp (wpm 9) cd_L_law Q 641 [vR 0, vR 8, vR 139, vI i] [] u c s := by
  obtain ⟨hA, hM, hv, h0⟩ := h
  have e1 := h0 (-1)
  refine run [(1197, [])] 80 ?_
  repeat first
    | refine z_gq (by omega) ?_
    | refine And.intro (by omega) ?_
  refine k_shift hA hv.tr (fun u1 a1 f1 => ?_)
  have M1 := mA_H f1 (fun a => by omega) hM
  have g0 : ∀ j, hI u1 0 j = hI u 0 j := fun j => (f1.1 0 (by omega) j).1
  have e2 := g0 (-1)
  repeat first
    | refine z_gq (by omega) ?_
    | refine And.intro (by omega) ?_
  rw [g0, g0]
  refine c_shift M1 hv.tr (fun u2 a2 f2 => ?_)
  refine z_bq (fun _ => ?_) (fun hn => absurd rfl hn)
  exact hk u2 _ _ _ ⟨cA_M f2 a1, a2, v_st hv (s_shift hv.tr hv.qn), fun j => ((f2.1 0 j (by omega)).1).trans ((g0 j).trans (h0 j))⟩ (by omega) (by omega)
theorem lw_shut {Q : aQ} {u0 u : aS} {A : Al} {i : Int} {c s : Nat} (h : Iv u0 u A) (i0 : 0 ≤ i) (i1 : i + 6 ≤ hI u0 0 (-1)) (i2 : hI u0 0 (-1) ≤ 3072) (hr : ∀ j, hI u0 0 j ≤ 2147483647) (hc : 600 ≤ c) (hs : 4200 ≤ s) (hk : ∀ u' A' c' s', Iv u0 u' A' → c ≤ c' + 600 → s ≤ s' + 4200 → wp (wpm 9) cd_L_law Q 1197 [vR 0, vR 8, vR 139, vI i] [] u' c' s') : wp (wpm 9) cd_L_law Q 674 [vR 0, vR 8, vR 139, vI i] [] u c s := by
  obtain ⟨hA, hM, hv, h0⟩ := h
  have e1 := h0 (-1)
  refine run [(1197, [])] 80 ?_
  repeat first
    | refine z_gq (by omega) ?_
    | refine And.intro (by omega) ?_
  refine k_shut hA hv.tr (fun u1 a1 f1 => ?_)
  have M1 := mA_H f1 (fun a => by omega) hM
  have g0 : ∀ j, hI u1 0 j = hI u 0 j := fun j => (f1.1 0 (by omega) j).1
  have e2 := g0 (-1)
  repeat first
    | refine z_gq (by omega) ?_
    | refine And.intro (by omega) ?_
  rw [g0]
  refine c_shut M1 hv.tr (fun u2 a2 f2 => ?_)
  refine z_bq (fun _ => ?_) (fun hn => absurd rfl hn)
  exact hk u2 _ _ _ ⟨cA_M f2 a1, a2, v_shut hv, fun j => ((f2.1 0 j (by omega)).1).trans ((g0 j).trans (h0 j))⟩ (by omega) (by omega)
theorem lw_bounce {Q : aQ} {u0 u : aS} {A : Al} {i : Int} {c s : Nat} (h : Iv u0 u A) (i0 : 0 ≤ i) (i1 : i + 6 ≤ hI u0 0 (-1)) (i2 : hI u0 0 (-1) ≤ 3072) (hr : ∀ j, hI u0 0 j ≤ 2147483647) (hc : 600 ≤ c) (hs : 4200 ≤ s) (hk : ∀ u' A' c' s', Iv u0 u' A' → c ≤ c' + 600 → s ≤ s' + 4200 → wp (wpm 9) cd_L_law Q 1197 [vR 0, vR 8, vR 139, vI i] [] u' c' s') : wp (wpm 9) cd_L_law Q 697 [vR 0, vR 8, vR 139, vI i] [] u c s := by
  obtain ⟨hA, hM, hv, h0⟩ := h
  have e1 := h0 (-1)
  refine run [(1197, [])] 80 ?_
  repeat first
    | refine z_gq (by omega) ?_
    | refine And.intro (by omega) ?_
  refine k_bounce hA hv.sz hv.sf hv.tn hv.qn (fun u1 a1 f1 => ?_)
  have M1 := mA_H f1 (fun a => by omega) hM
  have g0 : ∀ j, hI u1 0 j = hI u 0 j := fun j => (f1.1 0 (by omega) j).1
  have e2 := g0 (-1)
  repeat first
    | refine z_gq (by omega) ?_
    | refine And.intro (by omega) ?_
  rw [g0, g0]
  refine c_bounce M1 hv.sz hv.sf hv.tn hv.qn (fun u2 a2 f2 => ?_)
  refine z_bq (fun _ => ?_) (fun hn => absurd rfl hn)
  exact hk u2 _ _ _ ⟨cA_M f2 a1, a2, v_bounce hv, fun j => ((f2.1 0 j (by omega)).1).trans ((g0 j).trans (h0 j))⟩ (by omega) (by omega)
