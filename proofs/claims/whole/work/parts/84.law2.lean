/-! the law: its calls, the rest -/
theorem lw_undo {Q : aQ} {u0 u : aS} {A : Al} {i : Int} {c s : Nat} (h : Iv u0 u A) (i0 : 0 ≤ i) (i1 : i + 6 ≤ hI u0 0 (-1)) (i2 : hI u0 0 (-1) ≤ 3072) (hr : ∀ j, hI u0 0 j ≤ 2147483647) (hc : 600 ≤ c) (hs : 4200 ≤ s) (hk : ∀ u' A' c' s', Iv u0 u' A' → c ≤ c' + 600 → s ≤ s' + 4200 → wp (wpm 9) cd_L_law Q 1197 [vR 0, vR 8, vR 139, vI i] [] u' c' s') : wp (wpm 9) cd_L_law Q 730 [vR 0, vR 8, vR 139, vI i] [] u c s := by
  obtain ⟨hA, hM, hv, h0⟩ := h
  have e1 := h0 (-1)
  refine run [(1197, [])] 80 ?_
  repeat first
    | refine z_gq (by omega) ?_
    | refine And.intro (by omega) ?_
  refine k_undo hA (fun u1 a1 f1 => ?_)
  have M1 := mA_H f1 (fun a => by omega) hM
  have g0 : ∀ j, hI u1 0 j = hI u 0 j := fun j => (f1.1 0 (by omega) j).1
  have e2 := g0 (-1)
  repeat first
    | refine z_gq (by omega) ?_
    | refine And.intro (by omega) ?_
  rw [g0]
  refine c_undo M1 hv.tr (fun u2 a2 f2 => ?_)
  refine z_bq (fun _ => ?_) (fun hn => absurd rfl hn)
  exact hk u2 _ _ _ ⟨cA_M f2 a1, a2, v_undo hv, fun j => ((f2.1 0 j (by omega)).1).trans ((g0 j).trans (h0 j))⟩ (by omega) (by omega)
theorem lw_keep {Q : aQ} {u0 u : aS} {A : Al} {i : Int} {c s : Nat} (h : Iv u0 u A) (i0 : 0 ≤ i) (i1 : i + 6 ≤ hI u0 0 (-1)) (i2 : hI u0 0 (-1) ≤ 3072) (hr : ∀ j, hI u0 0 j ≤ 2147483647) (hc : 600 ≤ c) (hs : 4200 ≤ s) (hk : ∀ u' A' c' s', Iv u0 u' A' → c ≤ c' + 600 → s ≤ s' + 4200 → wp (wpm 9) cd_L_law Q 1197 [vR 0, vR 8, vR 139, vI i] [] u' c' s') : wp (wpm 9) cd_L_law Q 753 [vR 0, vR 8, vR 139, vI i] [] u c s := by
  obtain ⟨hA, hM, hv, h0⟩ := h
  have e1 := h0 (-1)
  refine run [(1197, [])] 80 ?_
  repeat first
    | refine z_gq (by omega) ?_
    | refine And.intro (by omega) ?_
  refine k_keep hA hv.tr (fun u1 a1 f1 => ?_)
  have M1 := mA_H f1 (fun a => by omega) hM
  have g0 : ∀ j, hI u1 0 j = hI u 0 j := fun j => (f1.1 0 (by omega) j).1
  have e2 := g0 (-1)
  repeat first
    | refine z_gq (by omega) ?_
    | refine And.intro (by omega) ?_
  rw [g0]
  refine c_keep M1 hv.tr hv.kp (fun u2 a2 f2 => ?_)
  refine z_bq (fun _ => ?_) (fun hn => absurd rfl hn)
  exact hk u2 _ _ _ ⟨cA_M f2 a1, a2, v_keep hv, fun j => ((f2.1 0 j (by omega)).1).trans ((g0 j).trans (h0 j))⟩ (by omega) (by omega)
theorem lw_back {Q : aQ} {u0 u : aS} {A : Al} {i : Int} {c s : Nat} (h : Iv u0 u A) (i0 : 0 ≤ i) (i1 : i + 6 ≤ hI u0 0 (-1)) (i2 : hI u0 0 (-1) ≤ 3072) (hr : ∀ j, hI u0 0 j ≤ 2147483647) (hc : 600 ≤ c) (hs : 4200 ≤ s) (hk : ∀ u' A' c' s', Iv u0 u' A' → c ≤ c' + 600 → s ≤ s' + 4200 → wp (wpm 9) cd_L_law Q 1197 [vR 0, vR 8, vR 139, vI i] [] u' c' s') : wp (wpm 9) cd_L_law Q 776 [vR 0, vR 8, vR 139, vI i] [] u c s := by
  obtain ⟨hA, hM, hv, h0⟩ := h
  have e1 := h0 (-1)
  refine run [(1197, [])] 80 ?_
  repeat first
    | refine z_gq (by omega) ?_
    | refine And.intro (by omega) ?_
  refine k_back hA hv.kp (fun u1 a1 f1 => ?_)
  have M1 := mA_H f1 (fun a => by omega) hM
  have g0 : ∀ j, hI u1 0 j = hI u 0 j := fun j => (f1.1 0 (by omega) j).1
  have e2 := g0 (-1)
  repeat first
    | refine z_gq (by omega) ?_
    | refine And.intro (by omega) ?_
  rw [g0]
  refine c_back M1 hv.kp (fun u2 a2 f2 => ?_)
  refine z_bq (fun _ => ?_) (fun hn => absurd rfl hn)
  exact hk u2 _ _ _ ⟨cA_M f2 a1, a2, v_back hv, fun j => ((f2.1 0 j (by omega)).1).trans ((g0 j).trans (h0 j))⟩ (by omega) (by omega)
theorem lw_heard {Q : aQ} {u0 u : aS} {A : Al} {i : Int} {c s : Nat} (h : Iv u0 u A) (i0 : 0 ≤ i) (i1 : i + 6 ≤ hI u0 0 (-1)) (i2 : hI u0 0 (-1) ≤ 3072) (hr : ∀ j, hI u0 0 j ≤ 2147483647) (hc : 600 ≤ c) (hs : 4200 ≤ s) (hk : ∀ u' A' c' s', Iv u0 u' A' → c ≤ c' + 600 → s ≤ s' + 4200 → wp (wpm 9) cd_L_law Q 1197 [vR 0, vR 8, vR 139, vI i] [] u' c' s') : wp (wpm 9) cd_L_law Q 799 [vR 0, vR 8, vR 139, vI i] [] u c s := by
  obtain ⟨hA, hM, hv, h0⟩ := h
  have e1 := h0 (-1)
  refine run [(1197, [])] 80 ?_
  repeat first
    | refine z_gq (by omega) ?_
    | refine And.intro (by omega) ?_
  refine k_heard hA hv.sz hv.sf hv.tn hv.qn ?_
  repeat first
    | refine z_gq (by omega) ?_
    | refine And.intro (by omega) ?_
  refine c_heard hM hv.sz hv.sf hv.tn hv.qn ?_
  refine z_bq (fun _ => ?_) (fun hn => absurd rfl hn)
  exact hk u A _ _ ⟨hA, hM, hv, h0⟩ (by omega) (by omega)
theorem lw_exact {Q : aQ} {u0 u : aS} {A : Al} {i : Int} {c s : Nat} (h : Iv u0 u A) (i0 : 0 ≤ i) (i1 : i + 6 ≤ hI u0 0 (-1)) (i2 : hI u0 0 (-1) ≤ 3072) (hr : ∀ j, hI u0 0 j ≤ 2147483647) (hc : 600 ≤ c) (hs : 4200 ≤ s) (hk : ∀ u' A' c' s', Iv u0 u' A' → c ≤ c' + 600 → s ≤ s' + 4200 → wp (wpm 9) cd_L_law Q 1197 [vR 0, vR 8, vR 139, vI i] [] u' c' s') : wp (wpm 9) cd_L_law Q 822 [vR 0, vR 8, vR 139, vI i] [] u c s := by
  obtain ⟨hA, hM, hv, h0⟩ := h
  have e1 := h0 (-1)
  refine run [(1197, [])] 80 ?_
  repeat first
    | refine z_gq (by omega) ?_
    | refine And.intro (by omega) ?_
  refine k_exact hA hv.sz hv.sf hv.tn hv.qn ?_
  repeat first
    | refine z_gq (by omega) ?_
    | refine And.intro (by omega) ?_
  refine c_exact hM hv.sz hv.sf hv.tn hv.qn ?_
  refine z_bq (fun _ => ?_) (fun hn => absurd (b_cmp_s _) hn)
  exact hk u A _ _ ⟨hA, hM, hv, h0⟩ (by omega) (by omega)
theorem lw_sum {Q : aQ} {u0 u : aS} {A : Al} {i : Int} {c s : Nat} (h : Iv u0 u A) (i0 : 0 ≤ i) (i1 : i + 6 ≤ hI u0 0 (-1)) (i2 : hI u0 0 (-1) ≤ 3072) (hr : ∀ j, hI u0 0 j ≤ 2147483647) (hc : 600 ≤ c) (hs : 4200 ≤ s) (hk : ∀ u' A' c' s', Iv u0 u' A' → c ≤ c' + 600 → s ≤ s' + 4200 → wp (wpm 9) cd_L_law Q 1197 [vR 0, vR 8, vR 139, vI i] [] u' c' s') : wp (wpm 9) cd_L_law Q 846 [vR 0, vR 8, vR 139, vI i] [] u c s := by
  obtain ⟨hA, hM, hv, h0⟩ := h
  have e1 := h0 (-1)
  refine run [(1197, [])] 80 ?_
  repeat first
    | refine z_gq (by omega) ?_
    | refine And.intro (by omega) ?_
  refine k_sum hA hv.sz hv.sf hv.tn hv.qn ?_
  repeat first
    | refine z_gq (by omega) ?_
    | refine And.intro (by omega) ?_
  refine c_sum hM hv.sz hv.sf hv.tn hv.qn ?_
  refine z_bq (fun _ => ?_) (fun hn => absurd (b_cmp_s _) hn)
  exact hk u A _ _ ⟨hA, hM, hv, h0⟩ (by omega) (by omega)
theorem lw_played {Q : aQ} {u0 u : aS} {A : Al} {i : Int} {c s : Nat} (h : Iv u0 u A) (i0 : 0 ≤ i) (i1 : i + 6 ≤ hI u0 0 (-1)) (i2 : hI u0 0 (-1) ≤ 3072) (hr : ∀ j, hI u0 0 j ≤ 2147483647) (hc : 600 ≤ c) (hs : 4200 ≤ s) (hk : ∀ u' A' c' s', Iv u0 u' A' → c ≤ c' + 600 → s ≤ s' + 4200 → wp (wpm 9) cd_L_law Q 1197 [vR 0, vR 8, vR 139, vI i] [] u' c' s') : wp (wpm 9) cd_L_law Q 880 [vR 0, vR 8, vR 139, vI i] [] u c s := by
  obtain ⟨hA, hM, hv, h0⟩ := h
  have e1 := h0 (-1)
  refine run [(1197, [])] 80 ?_
  repeat first
    | refine z_gq (by omega) ?_
    | refine And.intro (by omega) ?_
  refine k_played hA hv.sz hv.sf hv.tn hv.qn ?_
  repeat first
    | refine z_gq (by omega) ?_
    | refine And.intro (by omega) ?_
  refine c_played hM hv.sz hv.sf hv.tn hv.qn ?_
  refine z_bq (fun _ => ?_) (fun hn => absurd rfl hn)
  exact hk u A _ _ ⟨hA, hM, hv, h0⟩ (by omega) (by omega)
theorem lw_covers {Q : aQ} {u0 u : aS} {A : Al} {i : Int} {c s : Nat} (h : Iv u0 u A) (i0 : 0 ≤ i) (i1 : i + 6 ≤ hI u0 0 (-1)) (i2 : hI u0 0 (-1) ≤ 3072) (hr : ∀ j, hI u0 0 j ≤ 2147483647) (hc : 600 ≤ c) (hs : 4200 ≤ s) (hk : ∀ u' A' c' s', Iv u0 u' A' → c ≤ c' + 600 → s ≤ s' + 4200 → wp (wpm 9) cd_L_law Q 1197 [vR 0, vR 8, vR 139, vI i] [] u' c' s') : wp (wpm 9) cd_L_law Q 913 [vR 0, vR 8, vR 139, vI i] [] u c s := by
  obtain ⟨hA, hM, hv, h0⟩ := h
  have e1 := h0 (-1)
  refine run [(1197, [])] 80 ?_
  repeat first
    | refine z_gq (by omega) ?_
    | refine And.intro (by omega) ?_
  refine k_covers hA hv.tr ?_
  repeat first
    | refine z_gq (by omega) ?_
    | refine And.intro (by omega) ?_
  refine c_covers hM hv.tr ?_
  refine z_bq (fun _ => ?_) (fun hn => absurd rfl hn)
  exact hk u A _ _ ⟨hA, hM, hv, h0⟩ (by omega) (by omega)
theorem lw_rack {Q : aQ} {u0 u : aS} {A : Al} {i : Int} {c s : Nat} (h : Iv u0 u A) (i0 : 0 ≤ i) (i1 : i + 6 ≤ hI u0 0 (-1)) (i2 : hI u0 0 (-1) ≤ 3072) (hr : ∀ j, hI u0 0 j ≤ 2147483647) (hc : 600 ≤ c) (hs : 4200 ≤ s) (hk : ∀ u' A' c' s', Iv u0 u' A' → c ≤ c' + 600 → s ≤ s' + 4200 → wp (wpm 9) cd_L_law Q 1197 [vR 0, vR 8, vR 139, vI i] [] u' c' s') : wp (wpm 9) cd_L_law Q 956 [vR 0, vR 8, vR 139, vI i] [] u c s := by
  obtain ⟨hA, hM, hv, h0⟩ := h
  have e1 := h0 (-1)
  refine run [(1197, [])] 80 ?_
  repeat first
    | refine z_gq (by omega) ?_
    | refine And.intro (by omega) ?_
  refine k_rack hA (fun u1 a1 f1 => ?_)
  have M1 := mA_H f1 (fun a => by omega) hM
  have g0 : ∀ j, hI u1 0 j = hI u 0 j := fun j => (f1.1 0 (by omega) j).1
  have e2 := g0 (-1)
  repeat first
    | refine z_gq (by omega) ?_
    | refine And.intro (by omega) ?_
  rw [g0, g0, g0]
  refine c_rack M1 (fun u2 a2 f2 => ?_)
  refine z_bq (fun _ => ?_) (fun hn => absurd rfl hn)
  exact hk u2 _ _ _ ⟨cA_M f2 a1, a2, v_rk hv (vRk_rack hv.rk), fun j => ((f2.1 0 j (by omega)).1).trans ((g0 j).trans (h0 j))⟩ (by omega) (by omega)
theorem lw_hang {Q : aQ} {u0 u : aS} {A : Al} {i : Int} {c s : Nat} (h : Iv u0 u A) (i0 : 0 ≤ i) (i1 : i + 6 ≤ hI u0 0 (-1)) (i2 : hI u0 0 (-1) ≤ 3072) (hr : ∀ j, hI u0 0 j ≤ 2147483647) (hc : 600 ≤ c) (hs : 4200 ≤ s) (hk : ∀ u' A' c' s', Iv u0 u' A' → c ≤ c' + 600 → s ≤ s' + 4200 → wp (wpm 9) cd_L_law Q 1197 [vR 0, vR 8, vR 139, vI i] [] u' c' s') : wp (wpm 9) cd_L_law Q 999 [vR 0, vR 8, vR 139, vI i] [] u c s := by
  obtain ⟨hA, hM, hv, h0⟩ := h
  have e1 := h0 (-1)
  refine run [(1197, [])] 80 ?_
  repeat first
    | refine z_gq (by omega) ?_
    | refine And.intro (by omega) ?_
  refine k_hang hA hv.rk (fun u1 a1 f1 => ?_)
  have M1 := mA_H f1 (fun a => by omega) hM
  have g0 : ∀ j, hI u1 0 j = hI u 0 j := fun j => (f1.1 0 (by omega) j).1
  have e2 := g0 (-1)
  repeat first
    | refine z_gq (by omega) ?_
    | refine And.intro (by omega) ?_
  rw [g0, g0, g0, g0]
  refine c_hang M1 hv.rk (fun u2 a2 f2 => ?_)
  refine z_bq (fun _ => ?_) (fun hn => absurd rfl hn)
  exact hk u2 _ _ _ ⟨cA_M f2 a1, a2, v_rk hv (vRk_hang hv.rk), fun j => ((f2.1 0 j (by omega)).1).trans ((g0 j).trans (h0 j))⟩ (by omega) (by omega)
theorem lw_take {Q : aQ} {u0 u : aS} {A : Al} {i : Int} {c s : Nat} (h : Iv u0 u A) (i0 : 0 ≤ i) (i1 : i + 6 ≤ hI u0 0 (-1)) (i2 : hI u0 0 (-1) ≤ 3072) (hr : ∀ j, hI u0 0 j ≤ 2147483647) (hc : 600 ≤ c) (hs : 4200 ≤ s) (hk : ∀ u' A' c' s', Iv u0 u' A' → c ≤ c' + 600 → s ≤ s' + 4200 → wp (wpm 9) cd_L_law Q 1197 [vR 0, vR 8, vR 139, vI i] [] u' c' s') : wp (wpm 9) cd_L_law Q 1052 [vR 0, vR 8, vR 139, vI i] [] u c s := by
  obtain ⟨hA, hM, hv, h0⟩ := h
  have e1 := h0 (-1)
  refine run [(1197, [])] 80 ?_
  repeat first
    | refine z_gq (by omega) ?_
    | refine And.intro (by omega) ?_
  refine k_take hA hv.rk (fun u1 a1 f1 => ?_)
  have M1 := mA_H f1 (fun a => by omega) hM
  have g0 : ∀ j, hI u1 0 j = hI u 0 j := fun j => (f1.1 0 (by omega) j).1
  have e2 := g0 (-1)
  repeat first
    | refine z_gq (by omega) ?_
    | refine And.intro (by omega) ?_
  rw [g0, g0]
  refine c_take M1 hv.rk (fun u2 a2 f2 => ?_)
  refine z_bq (fun _ => ?_) (fun hn => absurd rfl hn)
  exact hk u2 _ _ _ ⟨cA_M f2 a1, a2, v_rk hv (vRk_take hv.rk), fun j => ((f2.1 0 j (by omega)).1).trans ((g0 j).trans (h0 j))⟩ (by omega) (by omega)
theorem lw_like {Q : aQ} {u0 u : aS} {A : Al} {i : Int} {c s : Nat} (h : Iv u0 u A) (i0 : 0 ≤ i) (i1 : i + 6 ≤ hI u0 0 (-1)) (i2 : hI u0 0 (-1) ≤ 3072) (hr : ∀ j, hI u0 0 j ≤ 2147483647) (hc : 600 ≤ c) (hs : 4200 ≤ s) (hk : ∀ u' A' c' s', Iv u0 u' A' → c ≤ c' + 600 → s ≤ s' + 4200 → wp (wpm 9) cd_L_law Q 1197 [vR 0, vR 8, vR 139, vI i] [] u' c' s') : wp (wpm 9) cd_L_law Q 1085 [vR 0, vR 8, vR 139, vI i] [] u c s := by
  obtain ⟨hA, hM, hv, h0⟩ := h
  have e1 := h0 (-1)
  refine run [(1197, [])] 80 ?_
  repeat first
    | refine z_gq (by omega) ?_
    | refine And.intro (by omega) ?_
  refine k_like hA hv.rk (fun u1 a1 f1 => ?_)
  have M1 := mA_H f1 (fun a => by omega) hM
  have g0 : ∀ j, hI u1 0 j = hI u 0 j := fun j => (f1.1 0 (by omega) j).1
  have e2 := g0 (-1)
  repeat first
    | refine z_gq (by omega) ?_
    | refine And.intro (by omega) ?_
  rw [g0, g0]
  refine c_like M1 (fun u2 a2 f2 => ?_)
  refine z_bq (fun _ => ?_) (fun hn => absurd rfl hn)
  exact hk u2 _ _ _ ⟨cA_M f2 a1, a2, v_rk hv (vRk_like hv.rk), fun j => ((f2.1 0 j (by omega)).1).trans ((g0 j).trans (h0 j))⟩ (by omega) (by omega)
theorem lw_pass {Q : aQ} {u0 u : aS} {A : Al} {i : Int} {c s : Nat} (h : Iv u0 u A) (i0 : 0 ≤ i) (i1 : i + 6 ≤ hI u0 0 (-1)) (i2 : hI u0 0 (-1) ≤ 3072) (hr : ∀ j, hI u0 0 j ≤ 2147483647) (hc : 600 ≤ c) (hs : 4200 ≤ s) (hk : ∀ u' A' c' s', Iv u0 u' A' → c ≤ c' + 600 → s ≤ s' + 4200 → wp (wpm 9) cd_L_law Q 1197 [vR 0, vR 8, vR 139, vI i] [] u' c' s') : wp (wpm 9) cd_L_law Q 1118 [vR 0, vR 8, vR 139, vI i] [] u c s := by
  obtain ⟨hA, hM, hv, h0⟩ := h
  have e1 := h0 (-1)
  refine run [(1197, [])] 80 ?_
  repeat first
    | refine z_gq (by omega) ?_
    | refine And.intro (by omega) ?_
  refine k_pass hA hv.rk (fun u1 a1 f1 => ?_)
  have M1 := mA_H f1 (fun a => by omega) hM
  have g0 : ∀ j, hI u1 0 j = hI u 0 j := fun j => (f1.1 0 (by omega) j).1
  have e2 := g0 (-1)
  repeat first
    | refine z_gq (by omega) ?_
    | refine And.intro (by omega) ?_
  rw [g0, g0]
  refine c_pass M1 hv.rk (fun u2 a2 f2 => ?_)
  refine z_bq (fun _ => ?_) (fun hn => absurd rfl hn)
  exact hk u2 _ _ _ ⟨cA_M f2 a1, a2, v_rk hv (vRk_pass hv.rk), fun j => ((f2.1 0 j (by omega)).1).trans ((g0 j).trans (h0 j))⟩ (by omega) (by omega)
theorem lw_drop {Q : aQ} {u0 u : aS} {A : Al} {i : Int} {c s : Nat} (h : Iv u0 u A) (i0 : 0 ≤ i) (i1 : i + 6 ≤ hI u0 0 (-1)) (i2 : hI u0 0 (-1) ≤ 3072) (hr : ∀ j, hI u0 0 j ≤ 2147483647) (hc : 600 ≤ c) (hs : 4200 ≤ s) (hk : ∀ u' A' c' s', Iv u0 u' A' → c ≤ c' + 600 → s ≤ s' + 4200 → wp (wpm 9) cd_L_law Q 1197 [vR 0, vR 8, vR 139, vI i] [] u' c' s') : wp (wpm 9) cd_L_law Q 1151 [vR 0, vR 8, vR 139, vI i] [] u c s := by
  obtain ⟨hA, hM, hv, h0⟩ := h
  have e1 := h0 (-1)
  refine run [(1197, [])] 80 ?_
  repeat first
    | refine z_gq (by omega) ?_
    | refine And.intro (by omega) ?_
  refine k_drop hA hv.rk (fun u1 a1 f1 => ?_)
  have M1 := mA_H f1 (fun a => by omega) hM
  have g0 : ∀ j, hI u1 0 j = hI u 0 j := fun j => (f1.1 0 (by omega) j).1
  have e2 := g0 (-1)
  repeat first
    | refine z_gq (by omega) ?_
    | refine And.intro (by omega) ?_
  rw [g0]
  refine c_drop M1 (fun u2 a2 f2 => ?_)
  refine z_bq (fun _ => ?_) (fun hn => absurd rfl hn)
  exact hk u2 _ _ _ ⟨cA_M f2 a1, a2, v_rk hv (vRk_drop hv.rk), fun j => ((f2.1 0 j (by omega)).1).trans ((g0 j).trans (h0 j))⟩ (by omega) (by omega)
theorem lw_count {Q : aQ} {u0 u : aS} {A : Al} {i : Int} {c s : Nat} (h : Iv u0 u A) (i0 : 0 ≤ i) (i1 : i + 6 ≤ hI u0 0 (-1)) (i2 : hI u0 0 (-1) ≤ 3072) (hr : ∀ j, hI u0 0 j ≤ 2147483647) (hc : 600 ≤ c) (hs : 4200 ≤ s) (hk : ∀ u' A' c' s', Iv u0 u' A' → c ≤ c' + 600 → s ≤ s' + 4200 → wp (wpm 9) cd_L_law Q 1197 [vR 0, vR 8, vR 139, vI i] [] u' c' s') : wp (wpm 9) cd_L_law Q 1174 [vR 0, vR 8, vR 139, vI i] [] u c s := by
  obtain ⟨hA, hM, hv, h0⟩ := h
  have e1 := h0 (-1)
  refine run [(1197, [])] 80 ?_
  repeat first
    | refine z_gq (by omega) ?_
    | refine And.intro (by omega) ?_
  refine k_count hA hv.sz hv.sf hv.rk hv.tr hv.tn hv.qn ?_
  repeat first
    | refine z_gq (by omega) ?_
    | refine And.intro (by omega) ?_
  refine c_count hM hv.sz hv.sf hv.tr hv.tn hv.qn ?_
  refine z_bq (fun _ => ?_) (fun hn => absurd rfl hn)
  exact hk u A _ _ ⟨hA, hM, hv, h0⟩ (by omega) (by omega)
