theorem b_cmp_lt {x y : Int} : b_cmp x y < 0 ↔ x < y := by
  unfold b_cmp
  split
  · simp [*]
  · split <;> simp <;> omega
theorem b_cmp_gt {x y : Int} : 0 < b_cmp x y ↔ y < x := by
  unfold b_cmp
  split
  · simp; omega
  · split <;> simp <;> omega
def mS (u : aS) : Prop := (hR u 139 0 = some 140 ∧ hR u 139 1 = some 141 ∧ hR u 139 3 = some 142 ∧ hR u 139 4 = some 143 ∧ hR u 139 5 = some 144 ∧ hR u 139 6 = some 145 ∧ hR u 139 7 = some 146 ∧ hR u 139 8 = some 147) ∧ (hR u 139 9 = some 148 ∧ hR u 139 10 = some 149 ∧ hR u 139 11 = some 150 ∧ hR u 139 12 = some 151 ∧ hR u 139 19 = some 152 ∧ hR u 139 21 = some 153 ∧ hR u 139 22 = some 154 ∧ hR u 139 23 = some 155)
theorem mS.now {u : aS} (h : mS u) : hR u 139 3 = some 142 := h.1.2.2.1
theorem mS.owner {u : aS} (h : mS u) : hR u 139 10 = some 149 := h.2.2.1
theorem mS.old {u : aS} (h : mS u) : hR u 139 11 = some 150 := h.2.2.2.1
theorem c_in {d : Nat} {v lo hi : Int} {u : aS} {Q : aQ} (h1 : lo ≤ v → v ≤ hi → Q (some (vI 1)) u) (h0 : ¬ (lo ≤ v ∧ v ≤ hi) → Q (some (vI 0)) u) : wpm (d + 1) M_X8_in [vL v, vL lo, vL hi] u Q := by
  refine e_X8_in (run [] 40 ?_)
  refine z_bq (fun h => ?_) (fun h => ?_)
  · rw [b_cmp_lt] at h
    exact h0 (by omega)
  · rw [b_cmp_lt] at h
    refine z_bq (fun h2 => ?_) (fun h2 => ?_)
    · rw [b_cmp_gt] at h2
      exact h0 (by omega)
    · rw [b_cmp_gt] at h2
      exact h1 (by omega) (by omega)
theorem c_isTrack {d : Nat} {k : Int} {u : aS} {Q : aQ} (h1 : 0 ≤ k → k ≤ 3 → Q (some (vI 1)) u) (h0 : ¬ (0 ≤ k ∧ k ≤ 3) → Q (some (vI 0)) u) : wpm (d + 2) M_X8_isTrack [vI k] u Q := by
  refine e_X8_isTrack (run [] 40 ?_)
  exact c_in h1 h0
theorem c_of {d : Nat} {k i w : Int} {u : aS} {Q : aQ} (hS : mS u) (hk : 0 ≤ k ∧ k ≤ 3) (hi : 0 ≤ i ∧ i ≤ 11) (hw : 0 ≤ w ∧ w ≤ 6) (h : Q (some (vI (hI u 142 (86 * k + 7 * i + w)))) u) : wpm (d + 1) M_X8_of [vR 139, vI k, vI i, vI w] u Q := by
  refine e_X8_of (run [] 40 ?_)
  refine z_dq hS.now ?_
  refine z_gq (by omega) ?_
  refine z_gq (by omega) ?_
  refine z_gq (by omega) ?_
  refine z_gq (by omega) ?_
  refine z_iq (n := 344) rfl (by omega) (by omega) ?_
  exact h
