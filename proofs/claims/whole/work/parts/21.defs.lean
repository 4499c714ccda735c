/-! counting -/
def cn (p : Int → Bool) : Nat → Int → Int
  | 0, _ => 0
  | n + 1, i => (if p i then 1 else 0) + cn p n (i + 1)
theorem cn_0 (p : Int → Bool) (i : Int) : cn p 0 i = 0 := rfl
theorem cn_s (p : Int → Bool) (n : Nat) (i : Int) : cn p (n + 1) i = (if p i then 1 else 0) + cn p n (i + 1) := rfl
theorem cn_b (p : Int → Bool) : ∀ (n : Nat) (i : Int), 0 ≤ cn p n i ∧ cn p n i ≤ n
  | 0, _ => ⟨Int.le_refl _, Int.le_refl _⟩
  | n + 1, i => by
    have h := cn_b p n (i + 1)
    rw [cn_s]
    split <;> omega
theorem cn_e {p q : Int → Bool} : ∀ (n : Nat) (i : Int), (∀ j, i ≤ j → j < i + n → p j = q j) → cn p n i = cn q n i
  | 0, _, _ => rfl
  | n + 1, i, h => by
    rw [cn_s, cn_s, h i (by omega) (by omega), cn_e n (i + 1) (fun j h1 h2 => h j (by omega) (by omega))]
theorem cn_a (p : Int → Bool) (m : Nat) : ∀ (n : Nat) (i : Int), cn p (n + m) i = cn p n i + cn p m (i + n)
  | 0, i => by simp [cn_0]
  | n + 1, i => by
    have e : n + 1 + m = (n + m) + 1 := by omega
    have e2 : i + 1 + (n : Int) = i + ((n + 1 : Nat) : Int) := by omega
    rw [e, cn_s, cn_s, cn_a p m n (i + 1), e2]
    omega
theorem cn_n {p : Int → Bool} : ∀ (n : Nat) (i : Int), (∀ j, i ≤ j → j < i + n → p j = false) → cn p n i = 0
  | 0, _, _ => rfl
  | n + 1, i, h => by
    rw [cn_s, h i (by omega) (by omega), cn_n n (i + 1) (fun j h1 h2 => h j (by omega) (by omega))]
    rfl
theorem cp_stp (u : aS) (a : Nat) {i j : Int} (b : Nat) (o : Int) (h : i < j) (hab : b = a → 0 ≤ o ∨ o ≤ i - j) : cp (sI u a i (hI u b (i + o))) a (i + 1) j b o = cp u a i j b o := by
  refine aS_ext (fun c q => ?_) (fun _ _ => rfl) (fun _ _ => rfl) rfl
  rw [hI_cp, hI_cp, hI_sI, hI_sI]
  by_cases e : c = a
  · by_cases e2 : q = i
    · rw [if_neg (by omega), if_pos ⟨e, e2⟩, if_pos ⟨e, by omega, by omega⟩, e2]
    · rw [if_neg (show ¬ (c = a ∧ q = i) from fun z => e2 z.2)]
      by_cases e3 : i + 1 ≤ q ∧ q < j
      · have e4 : ¬ (b = a ∧ q + o = i) := by omega
        rw [if_neg e4, if_pos ⟨e, e3⟩, if_pos ⟨e, by omega, by omega⟩]
      · rw [if_neg (fun z => e3 z.2), if_neg (fun z => e3 ⟨by omega, z.2.2⟩)]
  · rw [if_neg (fun z => e z.1), if_neg (fun z => e z.1), if_neg (fun z => e z.1)]
/-! what both sides stand for -/
abbrev Sp : Type := Int × Int × Int × Int × Int × Int × Int
def q0 (p : Sp) : Int := p.1
def q1 (p : Sp) : Int := p.2.1
def q2 (p : Sp) : Int := p.2.2.1
def q3 (p : Sp) : Int := p.2.2.2.1
def q4 (p : Sp) : Int := p.2.2.2.2.1
def q5 (p : Sp) : Int := p.2.2.2.2.2.1
def q6 (p : Sp) : Int := p.2.2.2.2.2.2
/-- spans and shift -/
abbrev Tk : Type := List Sp × Int
/-- sounds: how many, their sizes, their floats -/
abbrev So : Type := Int × (Int → Int) × (Int → Int → UInt32)
/-- letters -/
abbrev Tx : Type := Int × (Int → Int)
/-- racks: sort (-1 for none), room, things at 8 r + i -/
abbrev Rk : Type := (Int → Int) × (Int → Int) × (Int → Int)
/-- tracks: what lies there, what lay there (the latest first), shut -/
abbrev Tr : Type := Int → Tk × List Tk × Int
/-- what is kept -/
abbrev Kp : Type := Int → Int × (Int → Tk × Int)
abbrev Al : Type := So × Tx × Rk × Tr × Kp
/-! the model's half -/
def mSo (u : aS) (K : So) : Prop := hI u 139 2 = K.1 ∧ (∀ s, 0 ≤ s → s < 6 → hI u 141 s = K.2.1 s) ∧ ∀ s i, 0 ≤ s → s < 6 → 0 ≤ i → i < K.2.1 s → s < K.1 → hF u 140 (64 * s + i) = K.2.2 s i
def mTx (u : aS) (K : Tx) : Prop := hI u 139 13 = K.1 ∧ ∀ i, 0 ≤ i → i < K.1 → hI u 151 i = K.2 i
def mRk (u : aS) (K : Rk) : Prop := (∀ r, 0 ≤ r → r ≤ 2 → hI u 153 r = K.1 r ∧ hI u 154 r = K.2.1 r) ∧ ∀ j, 0 ≤ j → j < 24 → hI u 155 j = K.2.2 j
def mTk (u : aS) (a : Nat) (b : Int) (K : Tk) : Prop := hI u a (b + 84) = K.1.length ∧ hI u a (b + 85) = K.2 ∧ ∀ (i : Nat) (p : Sp), K.1[i]? = some p → hI u a (b + 7 * i) = q0 p ∧ hI u a (b + 7 * i + 1) = q1 p ∧ hI u a (b + 7 * i + 2) = q2 p ∧ hI u a (b + 7 * i + 3) = q3 p ∧ hI u a (b + 7 * i + 4) = q4 p ∧ hI u a (b + 7 * i + 5) = q5 p ∧ hI u a (b + 7 * i + 6) = q6 p
def mTr (u : aS) (K : Tr) : Prop := ∀ k, 0 ≤ k → k ≤ 3 → mTk u 142 (86 * k) (K k).1 ∧ hI u 143 k = (K k).2.2 ∧ hI u 145 k = (K k).2.1.length ∧ ∀ (j : Nat) (t : Tk), (K k).2.1[j]? = some t → mTk u 144 (344 * k + 86 * ((K k).2.1.length - 1 - j)) t
def mKp (u : aS) (K : Kp) : Prop := ∀ k, 0 ≤ k → k ≤ 1 → hI u 148 k = (K k).1 ∧ ((K k).1 = 1 → ∀ j, 0 ≤ j → j ≤ 3 → mTk u 146 (344 * k + 86 * j) ((K k).2 j).1 ∧ hI u 147 (4 * k + j) = ((K k).2 j).2)
def mA (u : aS) (A : Al) : Prop := mS u ∧ mSo u A.1 ∧ mTx u A.2.1 ∧ mRk u A.2.2.1 ∧ mTr u A.2.2.2.1 ∧ mKp u A.2.2.2.2
/-- only the model's half has changed -/
def fM (u u' : aS) : Prop := (∀ a i, ¬ (139 ≤ a ∧ a ≤ 155) → hI u' a i = hI u a i ∧ hF u' a i = hF u a i ∧ hR u' a i = hR u a i) ∧ nx u' = nx u
theorem fM_rfl (u : aS) : fM u u := ⟨fun _ _ _ => ⟨rfl, rfl, rfl⟩, rfl⟩
theorem fM_tr {u v w : aS} (h1 : fM u v) (h2 : fM v w) : fM u w := ⟨fun a i h => ⟨(h2.1 a i h).1.trans (h1.1 a i h).1, (h2.1 a i h).2.1.trans (h1.1 a i h).2.1, (h2.1 a i h).2.2.trans (h1.1 a i h).2.2⟩, h2.2.trans h1.2⟩
theorem fM_sI (u : aS) {a : Nat} (i v : Int) (h : 139 ≤ a ∧ a ≤ 155) : fM u (sI u a i v) := ⟨fun b j hb => ⟨by rw [hI_sI, if_neg (by omega)], rfl, rfl⟩, rfl⟩
theorem fM_sF (u : aS) {a : Nat} (i : Int) (v : UInt32) (h : 139 ≤ a ∧ a ≤ 155) : fM u (sF u a i v) := ⟨fun b j hb => ⟨rfl, by rw [hF_sF, if_neg (by omega)], rfl⟩, rfl⟩
theorem fM_fl (u : aS) {a : Nat} (i j v : Int) (h : 139 ≤ a ∧ a ≤ 155) : fM u (fl u a i j v) := ⟨fun b q hb => ⟨by rw [hI_fl, if_neg (by omega)], rfl, rfl⟩, rfl⟩
theorem fM_cp (u : aS) {a : Nat} (i j : Int) (b : Nat) (o : Int) (h : 139 ≤ a ∧ a ≤ 155) : fM u (cp u a i j b o) := ⟨fun b q hb => ⟨by rw [hI_cp, if_neg (by omega)], rfl, rfl⟩, rfl⟩
/-! racks -/
def up (f : Int → Int) (k v : Int) : Int → Int := fun j => if j = k then v else f j
def up8 (f : Int → Int) (k : Int) (g : Int → Int) : Int → Int := fun j => if 8 * k ≤ j ∧ j < 8 * k + 8 then g (j - 8 * k) else f j
def tOn (K : Rk) (k : Int) : Int := cn (fun i => decide (K.1 k ≠ -1) && decide (i < K.2.1 k) && decide (0 < K.2.2 (8 * k + i))) 8 0
def vRk (K : Rk) : Prop := (∀ r, 0 ≤ r → r ≤ 2 → (-1 ≤ K.1 r ∧ K.1 r ≤ 2) ∧ 0 ≤ K.2.1 r ∧ K.2.1 r ≤ 8) ∧ ∀ j, 0 ≤ K.2.2 j ∧ K.2.2 j ≤ 200
def oRack (K : Rk) (r a n : Int) : Int × Rk := if ¬ (0 ≤ r ∧ r ≤ 2) then (-2000000001, K) else if ¬ (0 ≤ a ∧ a ≤ 2) ∨ 8 < n then (-2000000002, K) else if n < 0 then (-2000000012, K) else (n, up K.1 r a, up K.2.1 r n, up8 K.2.2 r (fun _ => 0))
def thg (a v : Int) : Int := if a = 1 then 1 + v else 101 + v
def oHang (K : Rk) (r i a v : Int) : Int × Rk := if ¬ (0 ≤ r ∧ r ≤ 2) then (-2000000001, K) else if ¬ ((1 ≤ a ∧ a ≤ 2) ∧ 0 ≤ v ∧ v ≤ 99) then (-2000000002, K) else if K.1 r = -1 then (-2000000011, K) else if ¬ (0 ≤ i ∧ i ≤ K.2.1 r - 1) then (-2000000013, K) else if ¬ (K.1 r = 0 ∨ K.1 r = a) then (-2000000014, K) else (v, K.1, K.2.1, up K.2.2 (8 * r + i) (thg a v))
def oTake (K : Rk) (r i : Int) : Int × Rk := if ¬ (0 ≤ r ∧ r ≤ 2) then (-2000000001, K) else if K.1 r = -1 then (-2000000011, K) else if ¬ (0 ≤ i ∧ i ≤ K.2.1 r - 1) then (-2000000013, K) else if K.2.2 (8 * r + i) = 0 then (-2000000015, K) else (K.2.2 (8 * r + i) - 1, K.1, K.2.1, up K.2.2 (8 * r + i) 0)
def oLike (K : Rk) (r o : Int) : Int × Rk := if ¬ ((0 ≤ r ∧ r ≤ 2) ∧ 0 ≤ o ∧ o ≤ 2) then (-2000000001, K) else if K.1 o = -1 then (-2000000011, K) else (tOn (up K.1 r (K.1 o), up K.2.1 r (K.2.1 o), up8 K.2.2 r (fun i => K.2.2 (8 * o + i))) r, up K.1 r (K.1 o), up K.2.1 r (K.2.1 o), up8 K.2.2 r (fun i => K.2.2 (8 * o + i)))
/-- n places more, from i on; h hang already -/
def passL (S N : Int → Int) (r o : Int) : Nat → Int → Int → (Int → Int) → Int × (Int → Int)
  | 0, _, h, T => (h, T)
  | n + 1, i, h, T => if T (8 * r + i) = 0 then passL S N r o n (i + 1) h T else if i < N o ∧ (S o = 0 ∨ S o = (if 100 < T (8 * r + i) then 2 else 1)) then passL S N r o n (i + 1) (h + 1) (up T (8 * o + i) (T (8 * r + i))) else (h, T)
def oPass (K : Rk) (r o : Int) : Int × Rk := if ¬ ((0 ≤ r ∧ r ≤ 2) ∧ 0 ≤ o ∧ o ≤ 2) then (-2000000001, K) else if K.1 r = -1 ∨ K.1 o = -1 then (-2000000011, K) else ((passL K.1 K.2.1 r o (K.2.1 r).toNat 0 0 K.2.2).1, K.1, K.2.1, (passL K.1 K.2.1 r o (K.2.1 r).toNat 0 0 K.2.2).2)
def oDrop (K : Rk) (r : Int) : Int × Rk := if ¬ (0 ≤ r ∧ r ≤ 2) then (-2000000001, K) else if K.1 r = -1 then (-2000000011, K) else (tOn K r, up K.1 r (-1), K.2.1, K.2.2)
