/-! cells: fields, rows, new ones -/
theorem kd_hi {a : Nat} (h : 156 ≤ a) : kd a = (3, 7) := by
  have key : ∀ k, k ≤ a → Nat.blt a k = false := fun k hk => by
    cases hb : Nat.blt a k with
    | false => rfl
    | true =>
      have : a < k := Nat.le_of_ble_eq_true hb
      omega
  unfold kd
  rw [key 50 (by omega), key 130 (by omega), key 156 h]
  rfl
def nf (k : Nat) : Nat := match k with
  | 0 => 5
  | 1 => 8
  | 2 => 3
  | 3 => 7
  | 4 => 3
  | 5 => 2
  | 6 => 7
  | 7 => 6
  | _ => 24
theorem kd_obj (a : Nat) (h : (kd a).1 < 9) : (kd a).2 = nf (kd a).1 := by
  by_cases ha : a < 156
  · have key : ∀ a, a < 156 → (kd a).1 < 9 → (kd a).2 = nf (kd a).1 := by decide +kernel
    exact key a ha h
  · rw [kd_hi (by omega)]; rfl
theorem kd_lo (a : Nat) (h : a < 8) : 29 ≤ (kd a).1 := by
  have key : ∀ a, a < 8 → 29 ≤ (kd a).1 := by decide +kernel
  exact key a h
theorem kd_8 {a k : Nat} (h : (kd a).1 = k) (hk : k ≤ 28) : 8 ≤ a := by
  apply Classical.byContradiction
  intro hn
  have := kd_lo a (by omega)
  omega
theorem ck_obj {g : aG} {u : aS} {H : Heap} {a k : Nat} (h : ck g u H a) (hk : (kd a).1 = k) (h9 : k < 9) : t_OB (rho g a) (g.1 k) (nf k) (g.2.1 k) H (fun f => fv g u a (tyk k f) f) := by
  subst hk
  unfold ck at h
  rw [if_pos h9, kd_obj a h9] at h
  exact h
theorem ck_obj' {g : aG} {u : aS} {H : Heap} {a k : Nat} (hk : (kd a).1 = k) (h9 : k < 9) (h : t_OB (rho g a) (g.1 k) (nf k) (g.2.1 k) H (fun f => fv g u a (tyk k f) f)) : ck g u H a := by
  subst hk
  unfold ck
  rw [if_pos h9, kd_obj a h9]
  exact h
theorem ck_arr {g : aG} {u : aS} {H : Heap} {a k n : Nat} (h : ck g u H a) (hk : kd a = (k, n)) (h1 : 20 ≤ k) (h2 : k ≤ 28) : H[rho g a]? = some (arrV (g.2.2.1 k) n (fun j => fv g u a (ety k) j)) := by
  unfold ck at h
  rw [hk, if_neg (by show ¬ k < 9; omega), if_pos (show 20 ≤ k ∧ k ≤ 28 from ⟨h1, h2⟩)] at h
  exact h
theorem ck_arr' {g : aG} {u : aS} {H : Heap} {a k n : Nat} (hk : kd a = (k, n)) (h1 : 20 ≤ k) (h2 : k ≤ 28) (h : H[rho g a]? = some (arrV (g.2.2.1 k) n (fun j => fv g u a (ety k) j))) : ck g u H a := by
  unfold ck
  rw [hk, if_neg (by show ¬ k < 9; omega), if_pos (show 20 ≤ k ∧ k ≤ 28 from ⟨h1, h2⟩)]
  exact h
theorem rho_8 {g : aG} {a : Nat} (h : 8 ≤ a) : rho g a = (gH g).size + (a - 8) := by
  unfold rho
  rw [if_neg (by omega)]
theorem rho_ne {g : aG} {a b : Nat} (ha : 8 ≤ a) (hb : 8 ≤ b) (h : a ≠ b) : rho g a ≠ rho g b := by
  rw [rho_8 ha, rho_8 hb]
  omega
theorem fv_same {g : aG} {u u' : aS} {b : Nat} (ho : ∀ i, hI u' b i = hI u b i ∧ hF u' b i = hF u b i ∧ hR u' b i = hR u b i) (ty : FieldType) (i : Int) : fv g u' b ty i = fv g u b ty i := by
  unfold fv
  rw [(ho i).1, (ho i).2.1, (ho i).2.2]
theorem ck_same {g : aG} {u u' : aS} {H H' : Heap} {b : Nat} (h : ck g u H b) (ho : ∀ i, hI u' b i = hI u b i ∧ hF u' b i = hF u b i ∧ hR u' b i = hR u b i) (hq : H'[rho g b]? = H[rho g b]?) : ck g u' H' b := by
  have e : ∀ ty : Nat → FieldType, (fun j : Nat => fv g u' b (ty j) (j : Int)) = fun j : Nat => fv g u b (ty j) (j : Int) := fun ty => funext fun j => fv_same ho _ _
  unfold ck at h ⊢
  split
  · rename_i h9
    rw [if_pos h9] at h
    rw [e]
    exact h.kept hq
  · rename_i h9
    rw [if_neg h9] at h
    split
    · rename_i h2
      rw [if_pos h2] at h
      rw [e (fun _ => ety (kd b).1), hq]
      exact h
    · exact trivial
theorem aRep_upd {g : aG} {u u' : aS} {H H' : Heap} {a : Nat} (h : aRep g u H) (ha : 8 ≤ a) (hn : nx u' = nx u) (ho : ∀ b i, b ≠ a → hI u' b i = hI u b i ∧ hF u' b i = hF u b i ∧ hR u' b i = hR u b i)
    (hi : ∀ i, i_rg (hI u' a i)) (hr : ∀ i r, hR u' a i = some r → r < nx u) (hl : a < nx u) (z : H'.size = H.size) (o : ∀ q, q ≠ rho g a → H'[q]? = H[q]?) (hc : ck g u' H' a) : aRep g u' H' := by
  obtain ⟨⟨h8, hsz⟩, hck, hold, hir, hrr, hdf, hsc⟩ := h
  refine ⟨⟨by rw [hn]; exact h8, by rw [z, hn]; exact hsz⟩, fun b hb hbl => ?_, fun q hq => ?_, fun b i => ?_, fun b i r hbr => ?_, fun b hb i => ?_, ?_⟩
  · rw [hn] at hbl
    by_cases e : b = a
    · subst e; exact hc
    · exact ck_same (hck b hb hbl) (fun i => ho b i e) (o _ (rho_ne hb ha e))
  · rw [o q (by rw [rho_8 ha]; omega)]
    exact hold q hq
  · by_cases e : b = a
    · subst e; exact hi i
    · rw [(ho b i e).1]; exact hir b i
  · rw [hn]
    by_cases e : b = a
    · subst e; exact hr i r hbr
    · rw [(ho b i e).2.2] at hbr; exact hrr b i r hbr
  · rw [hn] at hb
    have e : b ≠ a := by omega
    rw [(ho b i e).1, (ho b i e).2.1, (ho b i e).2.2]
    exact hdf b hb i
  · have e0 : (0 : Nat) ≠ a := by omega
    refine ⟨by rw [(ho 0 _ e0).1]; exact hsc.1, fun j hj => by rw [(ho 0 _ e0).1]; exact hsc.2 j hj⟩
theorem aRep.lt {g : aG} {u : aS} {H : Heap} (h : aRep g u H) {a : Nat} (ha : 8 ≤ a) (hl : a < nx u) : rho g a < H.size := by
  rw [rho_8 ha, h.1.2]
  have := h.1.1
  omega
/-- the kinds of am's objects, as the kit's tables have them -/
theorem hin_all : ∀ k, k < 9 → ∀ q, vwC[k]? = some q → ∀ w ∈ u_ws q.1 q.2.1 q.2.2, w ∈ lw_g := by decide +kernel
theorem nf_ok : ∀ k, k < 9 → ∀ q, vwC[k]? = some q → q.2.2 = nf k := by decide +kernel
theorem tyk_ok : ∀ k, k < 9 → ∀ q, vwC[k]? = some q → ∀ f, f < q.2.2 → parseFieldDescriptor (q.2.1 f).2.2.1 = some (tyk k f) := by decide +kernel
theorem nmk_ok : ∀ k, k < 9 → ∀ q, vwC[k]? = some q → ∀ a, a < q.2.2 → ∀ b, b < q.2.2 → a ≠ b → (q.2.1 a).2.1 ≠ (q.2.1 b).2.1
  | 0, _, _, h => by cases h; exact nmX0
  | 1, _, _, h => by cases h; exact nmX1
  | 2, _, _, h => by cases h; exact nmX2
  | 3, _, _, h => by cases h; exact nmX3
  | 4, _, _, h => by cases h; exact nmX4
  | 5, _, _, h => by cases h; exact nmX5
  | 6, _, _, h => by cases h; exact nmX6
  | 7, _, _, h => by cases h; exact nmX7
  | 8, _, _, h => by cases h; exact nmX8
