/-! floats -/
theorem vf_of {r : UInt32} (h : r.toNat % 2 ^ 31 ≤ 2139095040) : vf_n32 r := by
  unfold vf_n32
  rw [UInt32.le_iff_toNat_le, UInt32.toNat_and]
  have e : (0x7fffffff : UInt32).toNat = 2 ^ 31 - 1 := rfl
  rw [e, Nat.and_two_pow_sub_one_eq_mod]
  exact h
def fb (E : Nat) (x : UInt32) : Prop := x.toNat % 2 ^ 31 < E * 2 ^ 23
theorem fb_vf {E : Nat} {x : UInt32} (h : fb E x) (hE : E ≤ 255) : vf_n32 x := vf_of (Nat.le_of_lt (Nat.lt_of_lt_of_le h (Nat.mul_le_mul_right _ hE)))
theorem fb_fin {E : Nat} {x : UInt32} (h : fb E x) (hE : E ≤ 255) : FP.Core.FFin x := FP.Core.fin_of_lt32 h hE
theorem fb_mono {E F : Nat} {x : UInt32} (h : fb E x) (hE : E ≤ F) : fb F x := Nat.lt_of_lt_of_le h (Nat.mul_le_mul_right _ hE)
theorem fb_mul {Ea Eb : Nat} {a b : UInt32} (ha : fb Ea a) (hb : fb Eb b) (h1 : Ea ≤ 255) (h2 : Eb ≤ 255) (h3 : 129 ≤ Ea + Eb) : fb (Ea + Eb - 126) (FP.fmul a b) := by
  have h := FP.Core.fmul_mag ha hb h1 h2
  have e : Ea + Eb - 129 + 3 = Ea + Eb - 126 := by omega
  rw [e] at h
  exact h
theorem fb_add {E : Nat} {a b : UInt32} (ha : fb E a) (hb : fb E b) (h1 : E ≤ 255) : fb (E + 2) (FP.fadd a b) := FP.Core.fadd_mag ha hb h1
theorem fb_0 {E : Nat} (h : 1 ≤ E) : fb E 0 := by
  show 0 % 2 ^ 31 < E * 2 ^ 23
  omega
def qt (a b : Int) : UInt32 := FP.fdiv (FP.i2f (Int32.ofInt a)) (FP.i2f (Int32.ofInt b))
def gq (g : Int) : UInt32 := FP.fdiv (FP.i2f (Int32.ofInt g)) 1090519040
theorem qt_all : ((List.range 65).all fun a => (List.range 66).all fun b => !(Nat.ble 1 a && Nat.ble a b) || Nat.blt ((qt (a : Int) (b : Int)).toNat % 2 ^ 31) (128 * 2 ^ 23)) = true := by decide +kernel
theorem gq_all : ((List.range 17).all fun a => Nat.blt ((gq (a : Int)).toNat % 2 ^ 31) (129 * 2 ^ 23)) = true := by decide +kernel
theorem tn_all : ((List.range 201).all fun a => Nat.blt ((FP.i2f (Int32.ofInt ((a : Int) - 100))).toNat % 2 ^ 31) (134 * 2 ^ 23) && !(FP.i2f (Int32.ofInt ((a : Int) - 100)) == 2147483648)) = true := by decide +kernel
theorem qt_b {a b : Int} (h0 : 1 ≤ a) (h1 : a ≤ b) (h2 : b ≤ 65) (h3 : a ≤ 64) : fb 128 (qt a b) := by
  have h := List.all_eq_true.mp qt_all a.toNat (List.mem_range.mpr (by omega))
  have h := List.all_eq_true.mp h b.toNat (List.mem_range.mpr (by omega))
  have e1 : Nat.ble 1 a.toNat = true := Nat.ble_eq_true_of_le (by omega)
  have e2 : Nat.ble a.toNat b.toNat = true := Nat.ble_eq_true_of_le (by omega)
  simp only [e1, e2, Bool.and_self, Bool.not_true, Bool.false_or, Nat.blt_eq] at h
  rw [show ((a.toNat : Nat) : Int) = a by omega, show ((b.toNat : Nat) : Int) = b by omega] at h
  exact h
theorem gq_b {g : Int} (h0 : 0 ≤ g) (h1 : g ≤ 16) : fb 129 (gq g) := by
  have h := List.all_eq_true.mp gq_all g.toNat (List.mem_range.mpr (by omega))
  simp only [Nat.blt_eq] at h
  rw [show ((g.toNat : Nat) : Int) = g by omega] at h
  exact h
theorem tn_b {x : Int} (h0 : -100 ≤ x) (h1 : x ≤ 100) : fb 134 (FP.i2f (Int32.ofInt x)) ∧ ¬ FP.i2f (Int32.ofInt x) = 2147483648 := by
  have h := List.all_eq_true.mp tn_all (x + 100).toNat (List.mem_range.mpr (by omega))
  rw [show ((((x + 100).toNat : Nat) : Int) - 100) = x by omega] at h
  simp only [Bool.and_eq_true, Nat.blt_eq, Bool.not_eq_true', beq_eq_false_iff_ne] at h
  exact h
theorem fadd_nz {a b : UInt32} (ha : FP.Core.FFin a) (hb : FP.Core.FFin b) (hz : ¬ a = 2147483648) : ¬ FP.fadd a b = 2147483648 := by
  intro h
  have h0 : FP.Core.zval FP.Core.b32 (FP.Core.val32 (FP.Core.fadd a b)) = 0 := by
    have e : FP.Core.fadd a b = 2147483648 := h
    rw [e]
    decide +kernel
  have one : FP.Core.zval FP.Core.b32 (FP.Core.val32 1) = 1 := by decide +kernel
  have mone : FP.Core.zval FP.Core.b32 (FP.Core.val32 2147483649) = -1 := by decide +kernel
  rw [FP.Core.val32_fadd] at h0
  have h1 : FP.Core.zval FP.Core.b32 (FP.Core.val32 a) + FP.Core.zval FP.Core.b32 (FP.Core.val32 b) = 0 := by
    apply Classical.byContradiction
    intro hn
    by_cases hp : 0 < FP.Core.zval FP.Core.b32 (FP.Core.val32 a) + FP.Core.zval FP.Core.b32 (FP.Core.val32 b)
    · have := FP.Core.sum_ge FP.Core.good_b32 ha hb (FP.Core.val32_fits a) (FP.Core.val32_fits b) (FP.Core.val32_fits 1) (by decide +kernel) (by rw [one]; omega)
      rw [one] at this
      omega
    · have := FP.Core.sum_le FP.Core.good_b32 ha hb (FP.Core.val32_fits a) (FP.Core.val32_fits b) (FP.Core.val32_fits 2147483649) (by decide +kernel) (by rw [mone]; omega)
      rw [mone] at this
      omega
  obtain ⟨s, c, q, ea⟩ := ha
  obtain ⟨t, d, r, eb⟩ := hb
  have fa := FP.Core.val32_fits a
  have fb' := FP.Core.val32_fits b
  rw [ea] at fa h1
  rw [eb] at fb' h1
  have hs : FP.Core.val32 (FP.Core.fadd a b) = FP.Core.Datum.fin true 0 FP.Core.b32.qmin := by
    have e : FP.Core.fadd a b = 2147483648 := h
    rw [e]
    decide +kernel
  rw [FP.Core.val32_fadd, ea, eb] at hs
  have hu := FP.Core.sum_units fa fb'
  have hx : FP.Core.exactSum (.fin s c q) (.fin t d r) = .fin (FP.Core.sumSign s t (FP.Core.sumUnits s c q t d r (min q r))) (FP.Core.sumUnits s c q t d r (min q r)).natAbs (min q r) := rfl
  have hv : FP.Core.sumUnits s c q t d r (min q r) = 0 := by
    obtain ⟨sg, n, e, g1, g2, g3⟩ := hu
    rw [hx] at g1
    injection g1 with i1 i2 i3
    rw [h1, FP.Core.signed_eq_zero] at g3
    unfold FP.Core.inUnits at g3
    rcases Nat.mul_eq_zero.mp g3 with z | z
    · omega
    · have := Nat.two_pow_pos (e - FP.Core.b32.qmin).toNat
      omega
  have hsg : s = true := by
    have g := congrArg FP.Core.sgn hs
    rw [hx, show FP.Core.round FP.Core.b32 (.fin (FP.Core.sumSign s t (FP.Core.sumUnits s c q t d r (min q r))) (FP.Core.sumUnits s c q t d r (min q r)).natAbs (min q r)) = FP.Core.roundRatio FP.Core.b32 (FP.Core.sumSign s t (FP.Core.sumUnits s c q t d r (min q r))) (FP.Core.sumUnits s c q t d r (min q r)).natAbs 1 (min q r) from rfl, FP.Core.sgn_roundRatio, hv] at g
    cases s
    · cases t <;> exact absurd g (by decide)
    · rfl
  have htg : t = true := by
    have g := congrArg FP.Core.sgn hs
    rw [hx, show FP.Core.round FP.Core.b32 (.fin (FP.Core.sumSign s t (FP.Core.sumUnits s c q t d r (min q r))) (FP.Core.sumUnits s c q t d r (min q r)).natAbs (min q r)) = FP.Core.roundRatio FP.Core.b32 (FP.Core.sumSign s t (FP.Core.sumUnits s c q t d r (min q r))) (FP.Core.sumUnits s c q t d r (min q r)).natAbs 1 (min q r) from rfl, FP.Core.sgn_roundRatio, hv] at g
    cases t
    · cases s <;> exact absurd g (by decide)
    · rfl
  subst hsg
  subst htg
  have hz0 : FP.Core.zval FP.Core.b32 (FP.Core.val32 a) = 0 := by
    rw [ea]
    unfold FP.Core.zval at h1 ⊢
    simp only [FP.Core.sgn, FP.Core.signed, if_true] at h1 ⊢
    omega
  have nn : FP.Core.val32 a ≠ .nan := by
    rw [ea]
    exact FP.Core.Datum.noConfusion
  have hm := (FP.Core.zval_eq_zero32 nn).mp hz0
  have hb := FP.Core.sgn_bits32 nn
  rw [ea] at hb
  have hb' : decide (2 ^ 31 ≤ a.toNat) = true := hb.symm
  rw [decide_eq_true_eq] at hb'
  have hlt : a.toNat < 2 ^ 32 := a.toNat_lt
  apply hz
  apply UInt32.toNat_inj.mp
  show a.toNat = 2147483648
  omega
theorem fadd_0 {v : UInt32} (h : FP.Core.FFin v) (hz : ¬ v = 2147483648) : FP.fadd v 0 = v := FP.Core.fadd_zero h.ne_nan hz
