/-! A smaller machine (am): values, a state, one predicate transformer an instruction; ints are whole numbers with a range to be shown; addresses are counted from the law's entry on. -/
abbrev aV : Type := Int ⊕ (Option Nat) ⊕ UInt32 ⊕ Int ⊕ UInt64 ⊕ Unit
abbrev vI (x : Int) : aV := .inl x
abbrev vO (r : Option Nat) : aV := .inr (.inl r)
abbrev vR (a : Nat) : aV := .inr (.inl (some a))
abbrev vN : aV := .inr (.inl none)
abbrev vF (f : UInt32) : aV := .inr (.inr (.inl f))
abbrev vL (x : Int) : aV := .inr (.inr (.inr (.inl x)))
abbrev vD (d : UInt64) : aV := .inr (.inr (.inr (.inr (.inl d))))
/-- a place of the locals of which nothing is known -/
abbrev vU : aV := .inr (.inr (.inr (.inr (.inr ()))))
/-- ints, floats, references by address and place; the next free address -/
abbrev aS : Type := (Nat → Int → Int) × (Nat → Int → UInt32) × (Nat → Int → Option Nat) × Nat
def hI (u : aS) (a : Nat) (i : Int) : Int := u.1 a i
def hF (u : aS) (a : Nat) (i : Int) : UInt32 := u.2.1 a i
def hR (u : aS) (a : Nat) (i : Int) : Option Nat := u.2.2.1 a i
def nx (u : aS) : Nat := u.2.2.2
def sI (u : aS) (a : Nat) (i v : Int) : aS := (fun b j => if b = a ∧ j = i then v else u.1 b j, u.2.1, u.2.2.1, u.2.2.2)
def sF (u : aS) (a : Nat) (i : Int) (v : UInt32) : aS := (u.1, fun b j => if b = a ∧ j = i then v else u.2.1 b j, u.2.2.1, u.2.2.2)
def sR (u : aS) (a : Nat) (i : Int) (v : Option Nat) : aS := (u.1, u.2.1, fun b j => if b = a ∧ j = i then v else u.2.2.1 b j, u.2.2.2)
def nw (u : aS) (k : Nat) : aS := (u.1, u.2.1, u.2.2.1, u.2.2.2 + k)
/-- an array of n rows has come at the next free address a, its rows right behind it -/
def nmr (u : aS) (n : Nat) : aS := (u.1, u.2.1, fun b j => if b = u.2.2.2 ∧ 0 ≤ j ∧ j < n then some (u.2.2.2 + 1 + j.toNat) else u.2.2.1 b j, u.2.2.2 + 1 + n)
theorem hI_sI (u : aS) (a : Nat) (i v : Int) (b : Nat) (j : Int) : hI (sI u a i v) b j = if b = a ∧ j = i then v else hI u b j := rfl
theorem hI_sF (u : aS) (a : Nat) (i : Int) (v : UInt32) (b : Nat) (j : Int) : hI (sF u a i v) b j = hI u b j := rfl
theorem hI_sR (u : aS) (a : Nat) (i : Int) (v : Option Nat) (b : Nat) (j : Int) : hI (sR u a i v) b j = hI u b j := rfl
theorem hF_sI (u : aS) (a : Nat) (i v : Int) (b : Nat) (j : Int) : hF (sI u a i v) b j = hF u b j := rfl
theorem hF_sF (u : aS) (a : Nat) (i : Int) (v : UInt32) (b : Nat) (j : Int) : hF (sF u a i v) b j = if b = a ∧ j = i then v else hF u b j := rfl
theorem hF_sR (u : aS) (a : Nat) (i : Int) (v : Option Nat) (b : Nat) (j : Int) : hF (sR u a i v) b j = hF u b j := rfl
theorem hR_sI (u : aS) (a : Nat) (i v : Int) (b : Nat) (j : Int) : hR (sI u a i v) b j = hR u b j := rfl
theorem hR_sF (u : aS) (a : Nat) (i : Int) (v : UInt32) (b : Nat) (j : Int) : hR (sF u a i v) b j = hR u b j := rfl
theorem hR_sR (u : aS) (a : Nat) (i : Int) (v : Option Nat) (b : Nat) (j : Int) : hR (sR u a i v) b j = if b = a ∧ j = i then v else hR u b j := rfl
theorem nx_sI (u : aS) (a : Nat) (i v : Int) : nx (sI u a i v) = nx u := rfl
theorem nx_sF (u : aS) (a : Nat) (i : Int) (v : UInt32) : nx (sF u a i v) = nx u := rfl
theorem nx_sR (u : aS) (a : Nat) (i : Int) (v : Option Nat) : nx (sR u a i v) = nx u := rfl
theorem nx_nw (u : aS) (k : Nat) : nx (nw u k) = nx u + k := rfl
theorem hI_nw (u : aS) (k b : Nat) (j : Int) : hI (nw u k) b j = hI u b j := rfl
theorem hF_nw (u : aS) (k b : Nat) (j : Int) : hF (nw u k) b j = hF u b j := rfl
theorem hR_nw (u : aS) (k b : Nat) (j : Int) : hR (nw u k) b j = hR u b j := rfl
/-! what lies where: kind and length by address. Kinds: 0 Rack, 1 Reader, 2 Sounds, 3 Span, 4 Tape, 5 Text, 6 Track, 7 TapeHouse, 8 Model; rows of 20 int, 21 float, 22 boolean, 23 Track, 24 Rack, 25 Tape, 26 Span, 27 int[], 28 float[]; 29 the script, 30 a written word -/
def nth2 : List (Nat × Nat) → Nat → Nat × Nat
  | [], _ => (99, 0)
  | q :: _, 0 => q
  | _ :: l, n + 1 => nth2 l n
def kdA : List (Nat × Nat) := [(29, 0), (30, 0), (30, 0), (30, 0), (30, 0), (30, 0), (30, 0), (30, 0), (7, 6), (2, 3), (28, 6), (21, 64), (21, 64), (21, 64), (21, 64), (21, 64), (21, 64), (20, 6), (23, 4), (22, 2), (24, 3), (5, 2), (20, 200), (1, 8), (27, 24), (20, 6), (20, 6), (20, 6), (20, 6), (20, 6), (20, 6), (20, 6), (20, 6), (20, 6), (20, 6), (20, 6), (20, 6), (20, 6), (20, 6), (20, 6), (20, 6), (20, 6), (20, 6), (20, 6), (20, 6), (20, 6), (20, 6), (20, 6), (20, 6), (20, 6)]
def kdT : List (Nat × Nat) := [(6, 7), (4, 3), (26, 14), (4, 3), (26, 14), (25, 4), (25, 2), (22, 2), (4, 3), (26, 14), (4, 3), (26, 14), (4, 3), (26, 14), (4, 3), (26, 14), (4, 3), (26, 14), (4, 3), (26, 14)]
def kdB : List (Nat × Nat) := [(0, 5), (20, 8), (20, 8), (0, 5), (20, 8), (20, 8), (0, 5), (20, 8), (20, 8), (8, 24), (21, 384), (20, 6), (20, 344), (20, 4), (20, 1376), (20, 4), (20, 688), (20, 8), (22, 2), (20, 128), (20, 91), (20, 200), (20, 6), (20, 3), (20, 3), (20, 24)]
def kd (a : Nat) : Nat × Nat := bif Nat.blt a 50 then nth2 kdA a else bif Nat.blt a 130 then nth2 kdT ((a - 50) % 20) else bif Nat.blt a 156 then nth2 kdB (a - 130) else (3, 7)
abbrev aQ : Type := Option aV → aS → Prop
abbrev aCall : Type := Nat → List aV → aS → aQ → Prop
abbrev aP : Type := Nat → List aV → List aV → aS → Nat → Nat → Prop
abbrev aT : Type := aCall → aQ → aP → List aV → List aV → aS → Nat → Nat → Prop
def lg : List aV → Nat → aV
  | [], _ => vU
  | v :: _, 0 => v
  | _ :: l, n + 1 => lg l n
def lset : List aV → Nat → aV → List aV
  | [], _, _ => []
  | _ :: l, 0, v => v :: l
  | u :: l, n + 1, v => u :: lset l n v
/-! conditions that a written number meets by itself -/
def z_kc (a k : Nat) (X : Prop) : Prop := bif Nat.beq (kd a).1 k then X else ((kd a).1 = k ∧ X)
theorem z_kq {a k : Nat} {X : Prop} (h : (kd a).1 = k) (x : X) : z_kc a k X := by
  unfold z_kc
  cases Nat.beq (kd a).1 k with
  | true => exact x
  | false => exact ⟨h, x⟩
theorem z_ko {a k : Nat} {X : Prop} (h : z_kc a k X) : (kd a).1 = k ∧ X := by
  unfold z_kc at h
  cases hb : Nat.beq (kd a).1 k with
  | true => rw [hb] at h; exact ⟨Nat.eq_of_beq_eq_true hb, h⟩
  | false => rw [hb] at h; exact h
def z_kr (r : Option Nat) (k : Nat) (X : Prop) : Prop := match r with
  | none => X
  | some b => z_kc b k X
theorem z_rq {r : Option Nat} {k : Nat} {X : Prop} (h : ∀ b, r = some b → (kd b).1 = k) (x : X) : z_kr r k X := by
  unfold z_kr
  cases r with
  | none => exact x
  | some b => exact z_kq (h b rfl) x
theorem z_ro {r : Option Nat} {k : Nat} {X : Prop} (h : z_kr r k X) : (∀ b, r = some b → (kd b).1 = k) ∧ X := by
  unfold z_kr at h
  cases r with
  | none => exact ⟨fun b hb => (by cases hb), h⟩
  | some b => exact ⟨fun b' hb => (by cases hb; exact (z_ko h).1), (z_ko h).2⟩
def z_rg (z : Int) (X : Prop) : Prop := bif decide (-2147483648 ≤ z) && decide (z ≤ 2147483647) then X else ((-2147483648 ≤ z ∧ z ≤ 2147483647) ∧ X)
theorem z_gq {z : Int} {X : Prop} (h : -2147483648 ≤ z ∧ z ≤ 2147483647) (x : X) : z_rg z X := by
  unfold z_rg
  cases decide (-2147483648 ≤ z) && decide (z ≤ 2147483647) with
  | true => exact x
  | false => exact ⟨h, x⟩
theorem z_go {z : Int} {X : Prop} (h : z_rg z X) : (-2147483648 ≤ z ∧ z ≤ 2147483647) ∧ X := by
  unfold z_rg at h
  cases hb : decide (-2147483648 ≤ z) && decide (z ≤ 2147483647) with
  | true =>
    rw [hb] at h
    simp only [Bool.and_eq_true, decide_eq_true_eq] at hb
    exact ⟨hb, h⟩
  | false => rw [hb] at h; exact h
def z_rl (z : Int) (X : Prop) : Prop := (-9223372036854775808 ≤ z ∧ z ≤ 9223372036854775807) ∧ X
def z_ix (a k : Nat) (i : Int) (X : Prop) : Prop := ∃ n : Nat, kd a = (k, n) ∧ 0 ≤ i ∧ i < n ∧ X
theorem z_iq {a k : Nat} {i : Int} {X : Prop} {n : Nat} (h : kd a = (k, n)) (h0 : 0 ≤ i) (h1 : i < n) (x : X) : z_ix a k i X := ⟨n, h, h0, h1, x⟩
def z_rd (r : Option Nat) (X : Option Nat → Prop) : Prop := ∃ r', r = r' ∧ X r'
theorem z_dq {r r' : Option Nat} {X : Option Nat → Prop} (h : r = r') (x : X r') : z_rd r X := ⟨r', h, x⟩
theorem z_dn {r : Option Nat} {X : Option Nat → Prop} (x : X r) : z_rd r X := ⟨r, rfl, x⟩
def z_ct (c : Nat) (k : Nat) (X : Nat → Prop) : Prop := match k with
  | 0 => X c
  | n + 1 => ∃ c', c = c' + (n + 1) ∧ X c'
theorem z_cq {c k c' : Nat} {X : Nat → Prop} (h : c = c' + k) (x : X c') : z_ct c k X := by
  cases k with
  | zero => cases h; exact x
  | succ n => exact ⟨c', h, x⟩
theorem z_co {c k : Nat} {X : Nat → Prop} (h : z_ct c k X) : ∃ c', c = c' + k ∧ X c' := by
  cases k with
  | zero => exact ⟨c, rfl, h⟩
  | succ n => exact h
def z_01 (x : Int) (X : Prop) : Prop := bif decide (x = 0) || decide (x = 1) then X else ((x = 0 ∨ x = 1) ∧ X)
theorem z_0q {x : Int} {X : Prop} (h : x = 0 ∨ x = 1) (y : X) : z_01 x X := by
  unfold z_01
  cases decide (x = 0) || decide (x = 1) with
  | true => exact y
  | false => exact ⟨h, y⟩
theorem z_0o {x : Int} {X : Prop} (h : z_01 x X) : (x = 0 ∨ x = 1) ∧ X := by
  unfold z_01 at h
  cases hb : decide (x = 0) || decide (x = 1) with
  | true =>
    rw [hb] at h
    simp only [Bool.or_eq_true, decide_eq_true_eq] at hb
    exact ⟨hb, h⟩
  | false => rw [hb] at h; exact h
theorem z_bq {c : Prop} [Decidable c] {A B : Prop} (f : c → A) (g : ¬ c → B) : (if c then A else B) := by
  by_cases h : c
  · rw [if_pos h]; exact f h
  · rw [if_neg h]; exact g h
/-! the instructions; n is where it goes on -/
def x_push (v : aV) (n : Nat) : aT := fun _ _ P L st u c s => P n L (v :: st) u c s
def x_iload (i n : Nat) : aT := fun _ _ P L st u c s => match lg L i with
  | .inl x => P n L (.inl x :: st) u c s
  | _ => False
def x_aload (i n : Nat) : aT := fun _ _ P L st u c s => match lg L i with
  | .inr (.inl r) => P n L (.inr (.inl r) :: st) u c s
  | _ => False
def x_fload (i n : Nat) : aT := fun _ _ P L st u c s => match lg L i with
  | .inr (.inr (.inl f)) => P n L (vF f :: st) u c s
  | _ => False
def x_lload (i n : Nat) : aT := fun _ _ P L st u c s => match lg L i with
  | .inr (.inr (.inr (.inl x))) => P n L (vL x :: st) u c s
  | _ => False
def x_dload (i n : Nat) : aT := fun _ _ P L st u c s => match lg L i with
  | .inr (.inr (.inr (.inr (.inl d)))) => P n L (vD d :: st) u c s
  | _ => False
/-- storing at i breaks a pair that begins ahead of it -/
def unw (L : List aV) (i : Nat) : List aV := match i with
  | 0 => L
  | j + 1 => match lg L j with
    | .inr (.inr (.inr (.inl _))) => lset L j vU
    | .inr (.inr (.inr (.inr (.inl _)))) => lset L j vU
    | _ => L
def lst1 (L : List aV) (i : Nat) (v : aV) : List aV := lset (unw L i) i v
def lst2 (L : List aV) (i : Nat) (v : aV) : List aV := lset (lset (unw L i) i v) (i + 1) vU
def x_istore (i n : Nat) : aT := fun _ _ P L st u c s => match st with
  | .inl x :: st => P n (lst1 L i (.inl x)) st u c s
  | _ => False
def x_astore (i n : Nat) : aT := fun _ _ P L st u c s => match st with
  | .inr (.inl r) :: st => P n (lst1 L i (.inr (.inl r))) st u c s
  | _ => False
def x_fstore (i n : Nat) : aT := fun _ _ P L st u c s => match st with
  | .inr (.inr (.inl f)) :: st => P n (lst1 L i (vF f)) st u c s
  | _ => False
def x_lstore (i n : Nat) : aT := fun _ _ P L st u c s => match st with
  | .inr (.inr (.inr (.inl x))) :: st => P n (lst2 L i (vL x)) st u c s
  | _ => False
def x_dstore (i n : Nat) : aT := fun _ _ P L st u c s => match st with
  | .inr (.inr (.inr (.inr (.inl d)))) :: st => P n (lst2 L i (vD d)) st u c s
  | _ => False
def x_iinc (i : Nat) (k : Int) (n : Nat) : aT := fun _ _ P L st u c s => match lg L i with
  | .inl x => z_rg (x + k) (P n (lst1 L i (.inl (x + k))) st u c s)
  | _ => False
def x_iadd (n : Nat) : aT := fun _ _ P L st u c s => match st with
  | .inl y :: .inl x :: st => z_rg (x + y) (P n L (.inl (x + y) :: st) u c s)
  | _ => False
def x_isub (n : Nat) : aT := fun _ _ P L st u c s => match st with
  | .inl y :: .inl x :: st => z_rg (x - y) (P n L (.inl (x - y) :: st) u c s)
  | _ => False
def x_imul (n : Nat) : aT := fun _ _ P L st u c s => match st with
  | .inl y :: .inl x :: st => z_rg (x * y) (P n L (.inl (x * y) :: st) u c s)
  | _ => False
def x_irem (n : Nat) : aT := fun _ _ P L st u c s => match st with
  | .inl y :: .inl x :: st => if y = 0 then False else P n L (.inl (Int.tmod x y) :: st) u c s
  | _ => False
def x_ineg (n : Nat) : aT := fun _ _ P L st u c s => match st with
  | .inl x :: st => z_rg (-x) (P n L (.inl (-x) :: st) u c s)
  | _ => False
def b_and (x y : Int) : Int := (Int32.ofInt x &&& Int32.ofInt y).toInt
def b_or (x y : Int) : Int := (Int32.ofInt x ||| Int32.ofInt y).toInt
def b_shl (x y : Int) : Int := (Int32.ofInt x <<< (Int32.ofInt y &&& 31)).toInt
def x_iand (n : Nat) : aT := fun _ _ P L st u c s => match st with
  | .inl y :: .inl x :: st => P n L (.inl (b_and x y) :: st) u c s
  | _ => False
def x_ior (n : Nat) : aT := fun _ _ P L st u c s => match st with
  | .inl y :: .inl x :: st => P n L (.inl (b_or x y) :: st) u c s
  | _ => False
def x_ishl (n : Nat) : aT := fun _ _ P L st u c s => match st with
  | .inl y :: .inl x :: st => P n L (.inl (b_shl x y) :: st) u c s
  | _ => False
def x_i2l (n : Nat) : aT := fun _ _ P L st u c s => match st with
  | .inl x :: st => P n L (vL x :: st) u c s
  | _ => False
def b_l2i (x : Int) : Int := (Int64.ofInt x).toInt32.toInt
def b_lor (x y : Int) : Int := (Int64.ofInt x ||| Int64.ofInt y).toInt
def b_lshl (x y : Int) : Int := (Int64.ofInt x <<< ((Int32.ofInt y).toInt64 &&& 63)).toInt
def x_l2i (n : Nat) : aT := fun _ _ P L st u c s => match st with
  | .inr (.inr (.inr (.inl x))) :: st => P n L (.inl (b_l2i x) :: st) u c s
  | _ => False
def x_lor (n : Nat) : aT := fun _ _ P L st u c s => match st with
  | .inr (.inr (.inr (.inl y))) :: .inr (.inr (.inr (.inl x))) :: st => P n L (vL (b_lor x y) :: st) u c s
  | _ => False
def x_lshl (n : Nat) : aT := fun _ _ P L st u c s => match st with
  | .inl y :: .inr (.inr (.inr (.inl x))) :: st => P n L (vL (b_lshl x y) :: st) u c s
  | _ => False
def x_ladd (n : Nat) : aT := fun _ _ P L st u c s => match st with
  | .inr (.inr (.inr (.inl y))) :: .inr (.inr (.inr (.inl x))) :: st => z_rl (x + y) (P n L (vL (x + y) :: st) u c s)
  | _ => False
def x_lsub (n : Nat) : aT := fun _ _ P L st u c s => match st with
  | .inr (.inr (.inr (.inl y))) :: .inr (.inr (.inr (.inl x))) :: st => z_rl (x - y) (P n L (vL (x - y) :: st) u c s)
  | _ => False
def b_cmp (x y : Int) : Int := if x < y then -1 else if x = y then 0 else 1
def x_lcmp (n : Nat) : aT := fun _ _ P L st u c s => match st with
  | .inr (.inr (.inr (.inl y))) :: .inr (.inr (.inr (.inl x))) :: st => P n L (.inl (b_cmp x y) :: st) u c s
  | _ => False
def x_i2f (n : Nat) : aT := fun _ _ P L st u c s => match st with
  | .inl x :: st => P n L (vF (FP.i2f (Int32.ofInt x)) :: st) u c s
  | _ => False
def x_f2i (n : Nat) : aT := fun _ _ P L st u c s => match st with
  | .inr (.inr (.inl f)) :: st => P n L (.inl (FP.f2i f).toInt :: st) u c s
  | _ => False
def x_f2d (n : Nat) : aT := fun _ _ P L st u c s => match st with
  | .inr (.inr (.inl f)) :: st => vf_n64 (FP.f2d f) ∧ P n L (vD (FP.f2d f) :: st) u c s
  | _ => False
def x_l2d (n : Nat) : aT := fun _ _ P L st u c s => match st with
  | .inr (.inr (.inr (.inl x))) :: st => P n L (vD (FP.l2d (Int64.ofInt x)) :: st) u c s
  | _ => False
def x_d2l (n : Nat) : aT := fun _ _ P L st u c s => match st with
  | .inr (.inr (.inr (.inr (.inl d)))) :: st => P n L (vL (FP.d2l d).toInt :: st) u c s
  | _ => False
def x_fadd (n : Nat) : aT := fun _ _ P L st u c s => match st with
  | .inr (.inr (.inl y)) :: .inr (.inr (.inl x)) :: st => vf_n32 (FP.fadd x y) ∧ P n L (vF (FP.fadd x y) :: st) u c s
  | _ => False
def x_fmul (n : Nat) : aT := fun _ _ P L st u c s => match st with
  | .inr (.inr (.inl y)) :: .inr (.inr (.inl x)) :: st => vf_n32 (FP.fmul x y) ∧ P n L (vF (FP.fmul x y) :: st) u c s
  | _ => False
def x_fdiv (n : Nat) : aT := fun _ _ P L st u c s => match st with
  | .inr (.inr (.inl y)) :: .inr (.inr (.inl x)) :: st => vf_n32 (FP.fdiv x y) ∧ P n L (vF (FP.fdiv x y) :: st) u c s
  | _ => False
def x_fneg (n : Nat) : aT := fun _ _ P L st u c s => match st with
  | .inr (.inr (.inl x)) :: st => P n L (vF (FP.fneg x) :: st) u c s
  | _ => False
def x_fcmp (op : CmpOp) (n : Nat) : aT := fun _ _ P L st u c s => match st with
  | .inr (.inr (.inl y)) :: .inr (.inr (.inl x)) :: st => P n L (.inl (Op.cmpValue (FP.fcmp x y) op).toInt :: st) u c s
  | _ => False
def x_dadd (n : Nat) : aT := fun _ _ P L st u c s => match st with
  | .inr (.inr (.inr (.inr (.inl y)))) :: .inr (.inr (.inr (.inr (.inl x)))) :: st => vf_n64 (FP.dadd x y) ∧ P n L (vD (FP.dadd x y) :: st) u c s
  | _ => False
def x_dmul (n : Nat) : aT := fun _ _ P L st u c s => match st with
  | .inr (.inr (.inr (.inr (.inl y)))) :: .inr (.inr (.inr (.inr (.inl x)))) :: st => vf_n64 (FP.dmul x y) ∧ P n L (vD (FP.dmul x y) :: st) u c s
  | _ => False
def x_ddiv (n : Nat) : aT := fun _ _ P L st u c s => match st with
  | .inr (.inr (.inr (.inr (.inl y)))) :: .inr (.inr (.inr (.inr (.inl x)))) :: st => vf_n64 (FP.ddiv x y) ∧ P n L (vD (FP.ddiv x y) :: st) u c s
  | _ => False
def x_dneg (n : Nat) : aT := fun _ _ P L st u c s => match st with
  | .inr (.inr (.inr (.inr (.inl x)))) :: st => P n L (vD (FP.dneg x) :: st) u c s
  | _ => False
def x_dcmp (op : CmpOp) (n : Nat) : aT := fun _ _ P L st u c s => match st with
  | .inr (.inr (.inr (.inr (.inl y)))) :: .inr (.inr (.inr (.inr (.inl x)))) :: st => P n L (.inl (Op.cmpValue (FP.dcmp x y) op).toInt :: st) u c s
  | _ => False
def x_ifeq (t n : Nat) : aT := fun _ _ P L st u c s => match st with
  | .inl x :: st => if x = 0 then P t L st u c s else P n L st u c s
  | _ => False
def x_ifne (t n : Nat) : aT := fun _ _ P L st u c s => match st with
  | .inl x :: st => if x = 0 then P n L st u c s else P t L st u c s
  | _ => False
def x_iflt (t n : Nat) : aT := fun _ _ P L st u c s => match st with
  | .inl x :: st => if x < 0 then P t L st u c s else P n L st u c s
  | _ => False
def x_ifge (t n : Nat) : aT := fun _ _ P L st u c s => match st with
  | .inl x :: st => if x < 0 then P n L st u c s else P t L st u c s
  | _ => False
def x_ifgt (t n : Nat) : aT := fun _ _ P L st u c s => match st with
  | .inl x :: st => if 0 < x then P t L st u c s else P n L st u c s
  | _ => False
def x_ifle (t n : Nat) : aT := fun _ _ P L st u c s => match st with
  | .inl x :: st => if 0 < x then P n L st u c s else P t L st u c s
  | _ => False
def x_ieq (t n : Nat) : aT := fun _ _ P L st u c s => match st with
  | .inl y :: .inl x :: st => if x = y then P t L st u c s else P n L st u c s
  | _ => False
def x_ine (t n : Nat) : aT := fun _ _ P L st u c s => match st with
  | .inl y :: .inl x :: st => if x = y then P n L st u c s else P t L st u c s
  | _ => False
def x_ilt (t n : Nat) : aT := fun _ _ P L st u c s => match st with
  | .inl y :: .inl x :: st => if x < y then P t L st u c s else P n L st u c s
  | _ => False
def x_ige (t n : Nat) : aT := fun _ _ P L st u c s => match st with
  | .inl y :: .inl x :: st => if x < y then P n L st u c s else P t L st u c s
  | _ => False
def x_igt (t n : Nat) : aT := fun _ _ P L st u c s => match st with
  | .inl y :: .inl x :: st => if y < x then P t L st u c s else P n L st u c s
  | _ => False
def x_ile (t n : Nat) : aT := fun _ _ P L st u c s => match st with
  | .inl y :: .inl x :: st => if y < x then P n L st u c s else P t L st u c s
  | _ => False
def x_goto (t : Nat) : aT := fun _ _ P L st u c s => P t L st u c s
def z_sw (X : Nat → Prop) (x : Int) (d : Nat) : List (Int × Nat) → Prop
  | [] => X d
  | q :: l => if x = q.1 then X q.2 else z_sw X x d l
def x_sw (d : Nat) (l : List (Int × Nat)) : aT := fun _ _ P L st u c s => match st with
  | .inl x :: st => z_sw (fun t => P t L st u c s) x d l
  | _ => False
def x_getI (k : Nat) (f : Int) (n : Nat) : aT := fun _ _ P L st u c s => match st with
  | .inr (.inl (some a)) :: st => z_kc a k (P n L (.inl (hI u a f) :: st) u c s)
  | _ => False
def x_getR (k : Nat) (f : Int) (n : Nat) : aT := fun _ _ P L st u c s => match st with
  | .inr (.inl (some a)) :: st => z_kc a k (z_rd (hR u a f) fun r => P n L (.inr (.inl r) :: st) u c s)
  | _ => False
def x_putI (k : Nat) (f : Int) (n : Nat) : aT := fun _ _ P L st u c s => match st with
  | .inl x :: .inr (.inl (some a)) :: st => z_kc a k (P n L st (sI u a f x) c s)
  | _ => False
def x_putZ (k : Nat) (f : Int) (n : Nat) : aT := fun _ _ P L st u c s => match st with
  | .inl x :: .inr (.inl (some a)) :: st => z_kc a k (z_01 x (P n L st (sI u a f x) c s))
  | _ => False
def x_putR (k : Nat) (f : Int) (n : Nat) : aT := fun _ _ P L st u c s => match st with
  | .inr (.inl r) :: .inr (.inl (some a)) :: st => z_kc a k (P n L st (sR u a f r) c s)
  | _ => False
def x_iald (n : Nat) : aT := fun _ _ P L st u c s => match st with
  | .inl i :: .inr (.inl (some a)) :: st => z_ix a 20 i (P n L (.inl (hI u a i) :: st) u c s)
  | _ => False
def x_iast (n : Nat) : aT := fun _ _ P L st u c s => match st with
  | .inl x :: .inl i :: .inr (.inl (some a)) :: st => z_ix a 20 i (P n L st (sI u a i x) c s)
  | _ => False
def x_zald (n : Nat) : aT := fun _ _ P L st u c s => match st with
  | .inl i :: .inr (.inl (some a)) :: st => z_ix a 22 i (P n L (.inl (hI u a i) :: st) u c s)
  | _ => False
def x_zast (n : Nat) : aT := fun _ _ P L st u c s => match st with
  | .inl x :: .inl i :: .inr (.inl (some a)) :: st => z_ix a 22 i (z_01 x (P n L st (sI u a i x) c s))
  | _ => False
def x_fald (n : Nat) : aT := fun _ _ P L st u c s => match st with
  | .inl i :: .inr (.inl (some a)) :: st => z_ix a 21 i (P n L (vF (hF u a i) :: st) u c s)
  | _ => False
def x_fast (n : Nat) : aT := fun _ _ P L st u c s => match st with
  | .inr (.inr (.inl x)) :: .inl i :: .inr (.inl (some a)) :: st => z_ix a 21 i (P n L st (sF u a i x) c s)
  | _ => False
def x_aald (k n : Nat) : aT := fun _ _ P L st u c s => match st with
  | .inl i :: .inr (.inl (some a)) :: st => z_ix a k i (z_rd (hR u a i) fun r => P n L (.inr (.inl r) :: st) u c s)
  | _ => False
def x_aast (k ke n : Nat) : aT := fun _ _ P L st u c s => match st with
  | .inr (.inl r) :: .inl i :: .inr (.inl (some a)) :: st => z_ix a k i (z_kr r ke (P n L st (sR u a i r) c s))
  | _ => False
/-- the script: its length stands at the place -1 -/
def x_slen (n : Nat) : aT := fun _ _ P L st u c s => match st with
  | .inr (.inl (some 0)) :: st => P n L (.inl (hI u 0 (-1)) :: st) u c s
  | _ => False
def x_sald (n : Nat) : aT := fun _ _ P L st u c s => match st with
  | .inl i :: .inr (.inl (some 0)) :: st => (0 ≤ i ∧ i < hI u 0 (-1)) ∧ P n L (.inl (hI u 0 i) :: st) u c s
  | _ => False
def x_new (k z n : Nat) : aT := fun _ _ P L st u c s => kd (nx u) = (k, z) ∧ z_ct c 1 fun c' => z_ct s z fun s' => P n L (vR (nx u) :: st) (nw u 1) c' s'
def x_newa (k n : Nat) : aT := fun _ _ P L st u c s => match st with
  | .inl i :: st => (0 ≤ i ∧ kd (nx u) = (k, i.toNat)) ∧ z_ct c 1 fun c' => z_ct s i.toNat fun s' => P n L (vR (nx u) :: st) (nw u 1) c' s'
  | _ => False
def x_mnew (k ke n : Nat) : aT := fun _ _ P L st u c s => match st with
  | .inl j :: .inl i :: st => (0 ≤ i ∧ 0 ≤ j ∧ kd (nx u) = (k, i.toNat) ∧ ∀ q : Nat, q < i.toNat → kd (nx u + 1 + q) = (ke, j.toNat)) ∧ z_ct c (1 + i.toNat) fun c' => z_ct s (i.toNat + i.toNat * j.toNat) fun s' => P n L (vR (nx u) :: st) (nmr u i.toNat) c' s'
  | _ => False
def x_dup (n : Nat) : aT := fun _ _ P L st u c s => match st with
  | .inl x :: st => P n L (.inl x :: .inl x :: st) u c s
  | .inr (.inl r) :: st => P n L (.inr (.inl r) :: .inr (.inl r) :: st) u c s
  | _ => False
def x_dup2 (n : Nat) : aT := fun _ _ P L st u c s => match st with
  | .inl x :: .inr (.inl r) :: st => P n L (.inl x :: .inr (.inl r) :: .inl x :: .inr (.inl r) :: st) u c s
  | _ => False
def x_pop (n : Nat) : aT := fun _ _ P L st u c s => match st with
  | .inl _ :: st => P n L st u c s
  | _ => False
def z_len (l : List aV) (X : Prop) : Prop := bif Nat.ble l.length 4 then X else False
/-- Object's own constructor -/
def x_oini (n : Nat) : aT := fun _ _ P L st u c s => match st with
  | .inr (.inl (some _)) :: st => z_len st (P n L st u c s)
  | _ => False
/-- the bits of a float, of a double -/
def x_fraw (n : Nat) : aT := fun _ _ P L st u c s => match st with
  | .inr (.inr (.inl f)) :: st => z_len st (P n L (.inl f.toInt32.toInt :: st) u c s)
  | _ => False
def x_draw (n : Nat) : aT := fun _ _ P L st u c s => match st with
  | .inr (.inr (.inr (.inr (.inl d)))) :: st => z_len st (P n L (vL d.toInt64.toInt :: st) u c s)
  | _ => False
/-- the written words, 1 on: house tone put fade gain shift shut -/
def w_tx : Nat → List Int
  | 1 => [104, 111, 117, 115, 101]
  | 2 => [116, 111, 110, 101]
  | 3 => [112, 117, 116]
  | 4 => [102, 97, 100, 101]
  | 5 => [103, 97, 105, 110]
  | 6 => [115, 104, 105, 102, 116]
  | 7 => [115, 104, 117, 116]
  | _ => []
def x_tlen (n : Nat) : aT := fun _ _ P L st u c s => match st with
  | .inr (.inl (some a)) :: st => (1 ≤ a ∧ a ≤ 7) ∧ z_len st (P n L (.inl (w_tx a).length :: st) u c s)
  | _ => False
def x_tchr (n : Nat) : aT := fun _ _ P L st u c s => match st with
  | .inl i :: .inr (.inl (some a)) :: st => (1 ≤ a ∧ a ≤ 7 ∧ 0 ≤ i ∧ i < (w_tx a).length) ∧ z_len st (P n L (.inl ((w_tx a).getD i.toNat 0) :: st) u c s)
  | _ => False
def popn : Nat → List aV → List aV → List aV × List aV
  | 0, st, acc => (acc, st)
  | _ + 1, [], acc => (acc, [])
  | k + 1, v :: st, acc => popn k st (v :: acc)
def rcons (r : Option aV) (st : List aV) : List aV := match r with
  | none => st
  | some v => v :: st
/-- how many places arguments take -/
def wds : List aV → Nat
  | [] => 0
  | .inr (.inr (.inr (.inl _))) :: l => wds l + 2
  | .inr (.inr (.inr (.inr (.inl _)))) :: l => wds l + 2
  | _ :: l => wds l + 1
/-- at most 8 words lie below the arguments -/
def z_pop (na : Nat) (q : List aV × List aV) (X : Prop) : Prop := bif Nat.ble (wds q.2) 8 && Nat.beq q.1.length na then X else False
/-- calls: a static method; a method of an object of kind k; M the method, na its arguments, k1 cells and k2 slots at most -/
def x_cs (M na n k1 k2 : Nat) : aT := fun call _ P L st u c s => z_pop na (popn na st []) (z_ct c k1 fun c' => z_ct s k2 fun s' => call M (popn na st []).1 u (fun r u' => P n L (rcons r (popn na st []).2) u' c' s'))
def z_rc (k : Nat) (l : List aV) (X : Prop) : Prop := match l with
  | .inr (.inl (some a)) :: _ => z_kc a k X
  | _ => False
def x_cv (k M na n k1 k2 : Nat) : aT := fun call _ P L st u c s => z_pop (na + 1) (popn (na + 1) st []) (z_rc k (popn (na + 1) st []).1 (z_ct c k1 fun c' => z_ct s k2 fun s' => call M (popn (na + 1) st []).1 u (fun r u' => P n L (rcons r (popn (na + 1) st []).2) u' c' s')))
def x_iret : aT := fun _ Q _ _ st u _ _ => match st with
  | [.inl x] => Q (some (.inl x)) u
  | _ => False
def x_zret : aT := fun _ Q _ _ st u _ _ => match st with
  | [.inl x] => z_01 x (Q (some (.inl x)) u)
  | _ => False
def x_lret : aT := fun _ Q _ _ st u _ _ => match st with
  | [.inr (.inr (.inr (.inl x)))] => Q (some (vL x)) u
  | _ => False
def x_fret : aT := fun _ Q _ _ st u _ _ => match st with
  | [.inr (.inr (.inl x))] => Q (some (vF x)) u
  | _ => False
def x_aret : aT := fun _ Q _ _ st u _ _ => match st with
  | [.inr (.inl r)] => Q (some (.inr (.inl r))) u
  | _ => False
def x_vret : aT := fun _ Q _ _ st u _ _ => match st with
  | [] => Q none u
  | _ => False
def x_bad : aT := fun _ _ _ _ _ _ _ _ => False
/-! runs -/
/-- less is known of the locals -/
def lwk (L' L : List aV) : Prop := L'.length = L.length ∧ ∀ i, lg L' i = lg L i ∨ lg L' i = vU
def z_cl (call : aCall) (cd : Nat → aT) (Q : aQ) (P : aP) : Prop :=
  (∀ P' : aP, (∀ pc L st u c s, P' pc L st u c s → P pc L st u c s) → ∀ pc L st u c s, cd pc call Q P' L st u c s → P pc L st u c s) ∧
  (∀ pc L L' st u c s, lwk L' L → P pc L' st u c s → P pc L st u c s)
/-- from here on the machine comes to an end with Q -/
def wp (call : aCall) (cd : Nat → aT) (Q : aQ) : aP := fun pc L st u c s => ∀ P : aP, z_cl call cd Q P → P pc L st u c s
theorem wp_of {call : aCall} {cd : Nat → aT} {Q : aQ} (P' : aP) (hP : ∀ pc L st u c s, P' pc L st u c s → wp call cd Q pc L st u c s) {pc : Nat} {L st : List aV} {u : aS} {c s : Nat} (h : cd pc call Q P' L st u c s) : wp call cd Q pc L st u c s :=
  fun P hc => hc.1 P' (fun pc L st u c s h => hP pc L st u c s h P hc) pc L st u c s h
theorem wp_wk {call : aCall} {cd : Nat → aT} {Q : aQ} {pc : Nat} {L L' st : List aV} {u : aS} {c s : Nat} (hw : lwk L' L) (h : wp call cd Q pc L' st u c s) : wp call cd Q pc L st u c s :=
  fun P hc => hc.2 pc L L' st u c s hw (h P hc)
def kl (L : List aV) (i : Nat) : List aV := lset L i vU
def kills : List Nat → List aV → List aV
  | [], L => L
  | i :: r, L => kills r (kl L i)
def cutAt : List (Nat × List Nat) → Nat → Option (List Nat)
  | [], _ => none
  | q :: l, pc => bif Nat.beq q.1 pc then some q.2 else cutAt l pc
/-- n steps, up to the places where they are cut -/
def gr (call : aCall) (cd : Nat → aT) (Q : aQ) (cuts : List (Nat × List Nat)) (P : aP) : Nat → aP
  | 0 => P
  | n + 1 => fun pc L st u c s => match cutAt cuts pc with
    | some k => P pc (kills k L) st u c s
    | none => cd pc call Q (gr call cd Q cuts P n) L st u c s
theorem lset_len : ∀ (L : List aV) (i : Nat) (v : aV), (lset L i v).length = L.length
  | [], _, _ => rfl
  | _ :: _, 0, _ => rfl
  | _ :: l, n + 1, v => congrArg (· + 1) (lset_len l n v)
theorem lg_lset : ∀ (L : List aV) (i : Nat) (v : aV) (j : Nat), lg (lset L i v) j = if j = i ∧ i < L.length then v else lg L j
  | [], i, v, j => by simp [lset, lg]
  | a :: l, 0, v, j => by cases j <;> simp [lset, lg]
  | a :: l, n + 1, v, 0 => by simp [lset, lg]
  | a :: l, n + 1, v, j + 1 => by simp [lset, lg, lg_lset l n v j]
theorem lg_out : ∀ (L : List aV) (i : Nat), L.length ≤ i → lg L i = vU
  | [], _, _ => rfl
  | a :: l, 0, h => by simp at h
  | a :: l, n + 1, h => lg_out l n (by simpa using h)
theorem lwk_rfl (L : List aV) : lwk L L := ⟨rfl, fun _ => Or.inl rfl⟩
theorem lwk_kl (L : List aV) (i : Nat) : lwk (kl L i) L := by
  refine ⟨lset_len _ _ _, fun j => ?_⟩
  show lg (lset L i vU) j = _ ∨ lg (lset L i vU) j = _
  rw [lg_lset]
  by_cases h : j = i ∧ i < L.length
  · rw [if_pos h]; exact Or.inr rfl
  · rw [if_neg h]; exact Or.inl rfl
theorem lwk_tr {A B C : List aV} (h1 : lwk A B) (h2 : lwk B C) : lwk A C := by
  refine ⟨h1.1.trans h2.1, fun i => ?_⟩
  rcases h1.2 i with e | e
  · rw [e]; exact h2.2 i
  · exact Or.inr e
theorem lwk_kills : ∀ (k : List Nat) (L : List aV), lwk (kills k L) L
  | [], L => lwk_rfl L
  | i :: r, L => lwk_tr (lwk_kills r (kl L i)) (lwk_kl L i)
theorem gr_wp (call : aCall) (cd : Nat → aT) (Q : aQ) (cuts : List (Nat × List Nat)) : ∀ (n : Nat) (pc : Nat) (L st : List aV) (u : aS) (c s : Nat), gr call cd Q cuts (wp call cd Q) n pc L st u c s → wp call cd Q pc L st u c s
  | 0, _, _, _, _, _, _, h => h
  | n + 1, pc, L, st, u, c, s, h => by
    unfold gr at h
    cases hc : cutAt cuts pc with
    | some k => rw [hc] at h; exact wp_wk (lwk_kills k L) h
    | none => rw [hc] at h; exact wp_of _ (gr_wp call cd Q cuts n) h
/-- a stretch of the walk: cuts: where it stops, and which locals are forgotten there; n steps at most -/
theorem run {call : aCall} {cd : Nat → aT} {Q : aQ} (cuts : List (Nat × List Nat)) (n : Nat) {pc : Nat} {L st : List aV} {u : aS} {c s : Nat} (h : cd pc call Q (gr call cd Q cuts (wp call cd Q) n) L st u c s) : wp call cd Q pc L st u c s :=
  wp_of _ (gr_wp call cd Q cuts n) h
/-- a method's locals at its start -/
def inil : Nat → List aV → List aV
  | 0, _ => []
  | n + 1, [] => vU :: inil n []
  | n + 1, v :: vs => v :: (match v with
    | .inr (.inr (.inr (.inl _))) => (match n with
      | 0 => []
      | n' + 1 => vU :: inil n' vs)
    | .inr (.inr (.inr (.inr (.inl _)))) => (match n with
      | 0 => []
      | n' + 1 => vU :: inil n' vs)
    | _ => inil n vs)
def z_2 (a b : Bool) (X : Prop) : Prop := bif a && b then X else False
theorem z_2q {a b : Bool} {X : Prop} (ha : a = true) (hb : b = true) (x : X) : z_2 a b X := by
  subst ha
  subst hb
  exact x
theorem z_2o {a b : Bool} {X : Prop} (h : z_2 a b X) : a = true ∧ b = true ∧ X := by
  cases a <;> cases b <;> first | exact h.elim | exact ⟨rfl, rfl, h⟩
