/-! the pure part: states, rows that are filled or copied -/
theorem aS_ext {u v : aS} (h1 : ∀ a i, hI u a i = hI v a i) (h2 : ∀ a i, hF u a i = hF v a i) (h3 : ∀ a i, hR u a i = hR v a i) (h4 : nx u = nx v) : u = v := by
  obtain ⟨a, b, c, d⟩ := u
  obtain ⟨a', b', c', d'⟩ := v
  have e1 : a = a' := funext fun x => funext fun y => h1 x y
  have e2 : b = b' := funext fun x => funext fun y => h2 x y
  have e3 : c = c' := funext fun x => funext fun y => h3 x y
  have e4 : d = d' := h4
  subst e1
  subst e2
  subst e3
  subst e4
  rfl
/-- the state with other ints -/
def wI (u : aS) (f : Nat → Int → Int) : aS := (f, u.2.1, u.2.2.1, u.2.2.2)
theorem hI_wI (u : aS) (f : Nat → Int → Int) (a : Nat) (i : Int) : hI (wI u f) a i = f a i := rfl
theorem hF_wI (u : aS) (f : Nat → Int → Int) (a : Nat) (i : Int) : hF (wI u f) a i = hF u a i := rfl
theorem hR_wI (u : aS) (f : Nat → Int → Int) (a : Nat) (i : Int) : hR (wI u f) a i = hR u a i := rfl
theorem nx_wI (u : aS) (f : Nat → Int → Int) : nx (wI u f) = nx u := rfl
/-- the row a holds v from i to j - 1 -/
def fl (u : aS) (a : Nat) (i j v : Int) : aS := wI u (fun b q => if b = a ∧ i ≤ q ∧ q < j then v else hI u b q)
theorem hI_fl (u : aS) (a : Nat) (i j v : Int) (b : Nat) (q : Int) : hI (fl u a i j v) b q = if b = a ∧ i ≤ q ∧ q < j then v else hI u b q := rfl
theorem hF_fl (u : aS) (a : Nat) (i j v : Int) (b : Nat) (q : Int) : hF (fl u a i j v) b q = hF u b q := rfl
theorem hR_fl (u : aS) (a : Nat) (i j v : Int) (b : Nat) (q : Int) : hR (fl u a i j v) b q = hR u b q := rfl
theorem nx_fl (u : aS) (a : Nat) (i j v : Int) : nx (fl u a i j v) = nx u := rfl
theorem fl_end (u : aS) (a : Nat) {i j : Int} (v : Int) (h : j ≤ i) : fl u a i j v = u := by
  refine aS_ext (fun b q => ?_) (fun _ _ => rfl) (fun _ _ => rfl) rfl
  rw [hI_fl, if_neg (by omega)]
theorem fl_step (u : aS) (a : Nat) {i j : Int} (v : Int) (h : i < j) : fl (sI u a i v) a (i + 1) j v = fl u a i j v := by
  refine aS_ext (fun b q => ?_) (fun _ _ => rfl) (fun _ _ => rfl) rfl
  rw [hI_fl, hI_fl, hI_sI]
  by_cases e : b = a
  · by_cases e2 : q = i
    · rw [if_neg (by omega), if_pos ⟨e, e2⟩, if_pos ⟨e, by omega, by omega⟩]
    · rw [if_neg (show ¬ (b = a ∧ q = i) from fun z => e2 z.2)]
      by_cases e3 : i + 1 ≤ q ∧ q < j
      · rw [if_pos ⟨e, e3⟩, if_pos ⟨e, by omega, by omega⟩]
      · rw [if_neg (fun z => e3 z.2), if_neg (fun z => e3 ⟨by omega, z.2.2⟩)]
  · rw [if_neg (fun z => e z.1), if_neg (fun z => e z.1), if_neg (fun z => e z.1)]
/-- the row a holds, from i to j - 1, what the row b holds o places on -/
def cp (u : aS) (a : Nat) (i j : Int) (b : Nat) (o : Int) : aS := wI u (fun c q => if c = a ∧ i ≤ q ∧ q < j then hI u b (q + o) else hI u c q)
theorem hI_cp (u : aS) (a : Nat) (i j : Int) (b : Nat) (o : Int) (c : Nat) (q : Int) : hI (cp u a i j b o) c q = if c = a ∧ i ≤ q ∧ q < j then hI u b (q + o) else hI u c q := rfl
theorem hF_cp (u : aS) (a : Nat) (i j : Int) (b : Nat) (o : Int) (c : Nat) (q : Int) : hF (cp u a i j b o) c q = hF u c q := rfl
theorem hR_cp (u : aS) (a : Nat) (i j : Int) (b : Nat) (o : Int) (c : Nat) (q : Int) : hR (cp u a i j b o) c q = hR u c q := rfl
theorem nx_cp (u : aS) (a : Nat) (i j : Int) (b : Nat) (o : Int) : nx (cp u a i j b o) = nx u := rfl
theorem cp_end (u : aS) (a : Nat) {i j : Int} (b : Nat) (o : Int) (h : j ≤ i) : cp u a i j b o = u := by
  refine aS_ext (fun c q => ?_) (fun _ _ => rfl) (fun _ _ => rfl) rfl
  rw [hI_cp, if_neg (by omega)]
theorem cp_step (u : aS) (a : Nat) {i j : Int} (b : Nat) (o : Int) (h : i < j) (hab : ¬ b = a) : cp (sI u a i (hI u b (i + o))) a (i + 1) j b o = cp u a i j b o := by
  refine aS_ext (fun c q => ?_) (fun _ _ => rfl) (fun _ _ => rfl) rfl
  rw [hI_cp, hI_cp, hI_sI, hI_sI, if_neg (show ¬ (b = a ∧ q + o = i) from fun z => hab z.1)]
  by_cases e : c = a
  · by_cases e2 : q = i
    · rw [if_neg (by omega), if_pos ⟨e, e2⟩, if_pos ⟨e, by omega, by omega⟩, e2]
    · rw [if_neg (show ¬ (c = a ∧ q = i) from fun z => e2 z.2)]
      by_cases e3 : i + 1 ≤ q ∧ q < j
      · rw [if_pos ⟨e, e3⟩, if_pos ⟨e, by omega, by omega⟩]
      · rw [if_neg (fun z => e3 z.2), if_neg (fun z => e3 ⟨by omega, z.2.2⟩)]
  · rw [if_neg (fun z => e z.1), if_neg (fun z => e z.1), if_neg (fun z => e z.1)]
theorem b_cmp_lt {x y : Int} : b_cmp x y < 0 ↔ x < y := by
  unfold b_cmp
  split
  · simp [*]
  · split <;> simp <;> omega
theorem b_cmp_gt {x y : Int} : 0 < b_cmp x y ↔ y < x := by
  unfold b_cmp
  split
  · simp; omega
  · split <;> simp <;> omega
/-! the model's own references -/
def mS (u : aS) : Prop := (hR u 139 0 = some 140 ∧ hR u 139 1 = some 141 ∧ hR u 139 3 = some 142 ∧ hR u 139 4 = some 143 ∧ hR u 139 5 = some 144 ∧ hR u 139 6 = some 145 ∧ hR u 139 7 = some 146 ∧ hR u 139 8 = some 147) ∧ (hR u 139 9 = some 148 ∧ hR u 139 10 = some 149 ∧ hR u 139 11 = some 150 ∧ hR u 139 12 = some 151 ∧ hR u 139 19 = some 152 ∧ hR u 139 21 = some 153 ∧ hR u 139 22 = some 154 ∧ hR u 139 23 = some 155)
theorem mS.floats {u : aS} (h : mS u) : hR u 139 0 = some 140 := h.1.1
theorem mS.sizes {u : aS} (h : mS u) : hR u 139 1 = some 141 := h.1.2.1
theorem mS.now {u : aS} (h : mS u) : hR u 139 3 = some 142 := h.1.2.2.1
theorem mS.shut {u : aS} (h : mS u) : hR u 139 4 = some 143 := h.1.2.2.2.1
theorem mS.past {u : aS} (h : mS u) : hR u 139 5 = some 144 := h.1.2.2.2.2.1
theorem mS.deeds {u : aS} (h : mS u) : hR u 139 6 = some 145 := h.1.2.2.2.2.2.1
theorem mS.images {u : aS} (h : mS u) : hR u 139 7 = some 146 := h.1.2.2.2.2.2.2.1
theorem mS.imageShut {u : aS} (h : mS u) : hR u 139 8 = some 147 := h.1.2.2.2.2.2.2.2
theorem mS.kept {u : aS} (h : mS u) : hR u 139 9 = some 148 := h.2.1
theorem mS.owner {u : aS} (h : mS u) : hR u 139 10 = some 149 := h.2.2.1
theorem mS.old {u : aS} (h : mS u) : hR u 139 11 = some 150 := h.2.2.2.1
theorem mS.letters {u : aS} (h : mS u) : hR u 139 12 = some 151 := h.2.2.2.2.1
theorem mS.toldSizes {u : aS} (h : mS u) : hR u 139 19 = some 152 := h.2.2.2.2.2.1
theorem mS.sort {u : aS} (h : mS u) : hR u 139 21 = some 153 := h.2.2.2.2.2.2.1
theorem mS.room {u : aS} (h : mS u) : hR u 139 22 = some 154 := h.2.2.2.2.2.2.2.1
theorem mS.things {u : aS} (h : mS u) : hR u 139 23 = some 155 := h.2.2.2.2.2.2.2.2
/-- in, of the model -/
theorem c_in {d : Nat} {v lo hi : Int} {u : aS} {Q : aQ} (h1 : lo ≤ v → v ≤ hi → Q (some (vI 1)) u) (h0 : ¬ (lo ≤ v ∧ v ≤ hi) → Q (some (vI 0)) u) : wpm (d + 1) M_X8_in [vL v, vL lo, vL hi] u Q := by
  refine e_X8_in rfl (run [] 40 ?_)
  refine z_bq (fun h => ?_) (fun h => ?_)
  · rw [b_cmp_lt] at h
    exact h0 (by omega)
  · rw [b_cmp_lt] at h
    refine z_bq (fun h2 => ?_) (fun h2 => ?_)
    · rw [b_cmp_gt] at h2
      exact h0 (by omega)
    · rw [b_cmp_gt] at h2
      exact h1 (by omega) (by omega)
theorem c_isTrack {d : Nat} {k : Int} {u : aS} {Q : aQ} (h1 : 0 ≤ k → k ≤ 3 → Q (some (vI 1)) u) (h0 : ¬ (0 ≤ k ∧ k ≤ 3) → Q (some (vI 0)) u) : wpm (d + 2) M_X8_isTrack [vI k] u Q := by
  refine e_X8_isTrack rfl (run [] 40 ?_)
  exact c_in h1 h0
theorem c_isRack {d : Nat} {k : Int} {u : aS} {Q : aQ} (h1 : 0 ≤ k → k ≤ 2 → Q (some (vI 1)) u) (h0 : ¬ (0 ≤ k ∧ k ≤ 2) → Q (some (vI 0)) u) : wpm (d + 2) M_X8_isRack [vI k] u Q := by
  refine e_X8_isRack rfl (run [] 40 ?_)
  exact c_in h1 h0
theorem c_many {d : Nat} {k : Int} {u : aS} {Q : aQ} (hS : mS u) (hk : 0 ≤ k ∧ k ≤ 3) (h : Q (some (vI (hI u 142 (86 * k + 84)))) u) : wpm (d + 1) M_X8_many [vR 139, vI k] u Q := by
  refine e_X8_many rfl (run [] 40 ?_)
  refine z_dq hS.now ?_
  refine z_gq (by omega) ?_
  refine z_gq (by omega) ?_
  refine z_iq (n := 344) rfl (by omega) (by omega) ?_
  exact h
theorem c_of {d : Nat} {k i w : Int} {u : aS} {Q : aQ} (hS : mS u) (hk : 0 ≤ k ∧ k ≤ 3) (hi : 0 ≤ i ∧ i ≤ 11) (hw : 0 ≤ w ∧ w ≤ 6) (h : Q (some (vI (hI u 142 (86 * k + 7 * i + w)))) u) : wpm (d + 1) M_X8_of [vR 139, vI k, vI i, vI w] u Q := by
  refine e_X8_of rfl (run [] 40 ?_)
  refine z_dq hS.now ?_
  refine z_gq (by omega) ?_
  refine z_gq (by omega) ?_
  refine z_gq (by omega) ?_
  refine z_gq (by omega) ?_
  refine z_iq (n := 344) rfl (by omega) (by omega) ?_
  exact h
theorem c_sets {d : Nat} {k i w v : Int} {u : aS} {Q : aQ} (hS : mS u) (hk : 0 ≤ k ∧ k ≤ 3) (hi : 0 ≤ i ∧ i ≤ 11) (hw : 0 ≤ w ∧ w ≤ 6) (h : Q none (sI u 142 (86 * k + 7 * i + w) v)) : wpm (d + 1) M_X8_sets [vR 139, vI k, vI i, vI w, vI v] u Q := by
  refine e_X8_sets rfl (run [] 40 ?_)
  refine z_dq hS.now ?_
  refine z_gq (by omega) ?_
  refine z_gq (by omega) ?_
  refine z_gq (by omega) ?_
  refine z_gq (by omega) ?_
  refine z_iq (n := 344) rfl (by omega) (by omega) ?_
  exact h
