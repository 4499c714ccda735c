/-! bits of floats, of doubles -/
theorem dadd_nz {a b : UInt64} (ha : FP.Core.DFin a) (hb : FP.Core.DFin b) (hz : ¬ a = 9223372036854775808) : ¬ FP.dadd a b = 9223372036854775808 := by
  intro h
  have h0 : FP.Core.zval FP.Core.b64 (FP.Core.val64 (FP.Core.dadd a b)) = 0 := by
    have e : FP.Core.dadd a b = 9223372036854775808 := h
    rw [e]
    decide +kernel
  have one : FP.Core.zval FP.Core.b64 (FP.Core.val64 1) = 1 := by decide +kernel
  have mone : FP.Core.zval FP.Core.b64 (FP.Core.val64 9223372036854775809) = -1 := by decide +kernel
  rw [FP.Core.val64_dadd] at h0
  have h1 : FP.Core.zval FP.Core.b64 (FP.Core.val64 a) + FP.Core.zval FP.Core.b64 (FP.Core.val64 b) = 0 := by
    apply Classical.byContradiction
    intro hn
    by_cases hp : 0 < FP.Core.zval FP.Core.b64 (FP.Core.val64 a) + FP.Core.zval FP.Core.b64 (FP.Core.val64 b)
    · have := FP.Core.sum_ge FP.Core.good_b64 ha hb (FP.Core.val64_fits a) (FP.Core.val64_fits b) (FP.Core.val64_fits 1) (by decide +kernel) (by rw [one]; omega)
      rw [one] at this
      omega
    · have := FP.Core.sum_le FP.Core.good_b64 ha hb (FP.Core.val64_fits a) (FP.Core.val64_fits b) (FP.Core.val64_fits 9223372036854775809) (by decide +kernel) (by rw [mone]; omega)
      rw [mone] at this
      omega
  obtain ⟨s, c, q, ea⟩ := ha
  obtain ⟨t, d, r, eb⟩ := hb
  have fa := FP.Core.val64_fits a
  have fb' := FP.Core.val64_fits b
  rw [ea] at fa h1
  rw [eb] at fb' h1
  have hs : FP.Core.val64 (FP.Core.dadd a b) = FP.Core.Datum.fin true 0 FP.Core.b64.qmin := by
    have e : FP.Core.dadd a b = 9223372036854775808 := h
    rw [e]
    decide +kernel
  rw [FP.Core.val64_dadd, ea, eb] at hs
  have hu := FP.Core.sum_units fa fb'
  have hx : FP.Core.exactSum (.fin s c q) (.fin t d r) = .fin (FP.Core.sumSign s t (FP.Core.sumUnits s c q t d r (min q r))) (FP.Core.sumUnits s c q t d r (min q r)).natAbs (min q r) := rfl
  have hv : FP.Core.sumUnits s c q t d r (min q r) = 0 := by
    obtain ⟨sg, n, e, g1, g2, g3⟩ := hu
    rw [hx] at g1
    injection g1 with i1 i2 i3
    rw [h1, FP.Core.signed_eq_zero] at g3
    unfold FP.Core.inUnits at g3
    rcases Nat.mul_eq_zero.mp g3 with z | z
    · omega
    · have := Nat.two_pow_pos (e - FP.Core.b64.qmin).toNat
      omega
  have hsg : s = true := by
    have g := congrArg FP.Core.sgn hs
    rw [hx, show FP.Core.round FP.Core.b64 (.fin (FP.Core.sumSign s t (FP.Core.sumUnits s c q t d r (min q r))) (FP.Core.sumUnits s c q t d r (min q r)).natAbs (min q r)) = FP.Core.roundRatio FP.Core.b64 (FP.Core.sumSign s t (FP.Core.sumUnits s c q t d r (min q r))) (FP.Core.sumUnits s c q t d r (min q r)).natAbs 1 (min q r) from rfl, FP.Core.sgn_roundRatio, hv] at g
    cases s
    · cases t <;> exact absurd g (by decide)
    · rfl
  have htg : t = true := by
    have g := congrArg FP.Core.sgn hs
    rw [hx, show FP.Core.round FP.Core.b64 (.fin (FP.Core.sumSign s t (FP.Core.sumUnits s c q t d r (min q r))) (FP.Core.sumUnits s c q t d r (min q r)).natAbs (min q r)) = FP.Core.roundRatio FP.Core.b64 (FP.Core.sumSign s t (FP.Core.sumUnits s c q t d r (min q r))) (FP.Core.sumUnits s c q t d r (min q r)).natAbs 1 (min q r) from rfl, FP.Core.sgn_roundRatio, hv] at g
    cases t
    · cases s <;> exact absurd g (by decide)
    · rfl
  subst hsg
  subst htg
  have hz0 : FP.Core.zval FP.Core.b64 (FP.Core.val64 a) = 0 := by
    rw [ea]
    unfold FP.Core.zval at h1 ⊢
    simp only [FP.Core.sgn, FP.Core.signed, if_true] at h1 ⊢
    omega
  have nn : FP.Core.val64 a ≠ .nan := by
    rw [ea]
    exact FP.Core.Datum.noConfusion
  have hm := (FP.Core.zval_eq_zero nn).mp hz0
  have hb := FP.Core.sgn_bits nn
  rw [ea] at hb
  have hb' : decide (2 ^ 63 ≤ a.toNat) = true := hb.symm
  rw [decide_eq_true_eq] at hb'
  have hlt : a.toNat < 2 ^ 64 := a.toNat_lt
  apply hz
  apply UInt64.toNat_inj.mp
  show a.toNat = 9223372036854775808
  omega
theorem or_31 {m : Nat} (h : m < 2 ^ 31) : m ||| 2 ^ 31 = m + 2 ^ 31 := by
  have := Nat.two_pow_add_eq_or_of_lt h 1
  rw [Nat.mul_one] at this
  rw [Nat.or_comm, ← this, Nat.add_comm]
theorem or_63 {m : Nat} (h : m < 2 ^ 63) : m ||| 2 ^ 63 = m + 2 ^ 63 := by
  have := Nat.two_pow_add_eq_or_of_lt h 1
  rw [Nat.mul_one] at this
  rw [Nat.or_comm, ← this, Nat.add_comm]
theorem bi_p {v : UInt32} (h : v.toNat < 2 ^ 31) : v.toInt32.toInt = v.toNat := by
  have e : v.toInt32 = Int32.ofNat v.toNat := by rw [← UInt32.toInt32_ofNat', UInt32.ofNat_toNat]
  rw [e]
  exact nI_toInt h
theorem b_l2i_p {m : Nat} (h : m < 2 ^ 31) : b_l2i (m : Int) = m := by
  unfold b_l2i
  rw [Int64.toInt32_ofInt]
  exact Int32.toInt_ofInt_of_le (by omega) (by omega)
theorem bi_n {v : UInt32} {m : Nat} (h : v.toNat = m + 2 ^ 31) (hm : m < 2 ^ 31) : b_or (m : Int) (-2147483648) = v.toInt32.toInt := by
  have e : v = UInt32.ofNat m ||| 2147483648 := by
    apply UInt32.toNat_inj.mp
    rw [UInt32.toNat_or, h]
    show _ = (UInt32.ofNat m).toNat ||| 2 ^ 31
    rw [show (UInt32.ofNat m).toNat = m from UInt32.toNat_ofNat_of_lt' (Nat.lt_trans hm (by decide)), or_31 hm]
  rw [e]
  rfl
theorem bl_p {v : UInt64} (h : v.toNat < 2 ^ 63) : v.toInt64.toInt = v.toNat := by
  have e : v.toInt64 = Int64.ofNat v.toNat := by rw [← UInt64.toInt64_ofNat', UInt64.ofNat_toNat]
  rw [e]
  exact Int64.toInt_ofNat_of_lt h
theorem bl_n {v : UInt64} {m : Nat} (h : v.toNat = m + 2 ^ 63) (hm : m < 2 ^ 63) : b_lor (m : Int) (-9223372036854775808) = v.toInt64.toInt := by
  have e : v = UInt64.ofNat m ||| 9223372036854775808 := by
    apply UInt64.toNat_inj.mp
    rw [UInt64.toNat_or, h]
    show _ = (UInt64.ofNat m).toNat ||| 2 ^ 63
    rw [show (UInt64.ofNat m).toNat = m from UInt64.toNat_ofNat_of_lt' (Nat.lt_trans hm (by decide)), or_63 hm]
  rw [e]
  rfl
/-- a float, made a double: its size -/
theorem fU {v : UInt32} (hf : FP.Core.FFin v) : ∃ s c q, FP.Core.val64 (FP.f2d v) = .fin s c q ∧ FP.Core.inUnits c q (-1074) = uo 23 (v.toNat % 2 ^ 31) * 2 ^ 925 ∧ s = decide (2 ^ 31 ≤ v.toNat) := by
  have hn := hf.ne_nan
  have hz := FP.Core.zmag_toNat32 hn
  have hs := FP.Core.sgn_bits32 hn
  have ft := FP.Core.val32_fits v
  obtain ⟨s, c, q, e⟩ := hf
  rw [e] at hz hs ft
  have hz' : FP.Core.inUnits c q FP.Core.b32.qmin = FP.Core.unitsOf FP.Core.b32 (v.toNat % 2 ^ 31) := hz
  rw [FP.Core.qmin_b32, uo32] at hz'
  obtain ⟨f1, f2, f3, f4⟩ := ft
  rw [FP.Core.qmin_b32] at f2
  have f3' : q ≤ 104 := f3
  have f1' : c < 2 ^ 24 := f1
  have hv : FP.Core.val64 (FP.f2d v) = FP.Core.round FP.Core.b64 (.fin s c q) := by
    rw [FP.f2d_core ((FP.Core.notNaN_iff32 v).mpr hn), FP.Core.val64_f2d, e]
  obtain ⟨c', q', e2, u2⟩ := FP.Core.round_exact FP.Core.good_b64 s (c := c) (q := q) (Nat.lt_trans f1' (by decide)) (by rw [q64]; omega) (by rw [x64]; omega)
  refine ⟨s, c', q', hv.trans e2, ?_, hs⟩
  rw [q64] at u2
  rw [u2, ← hz']
  unfold FP.Core.inUnits
  rw [show (q - -1074).toNat = (q - -149).toNat + 925 by omega, Nat.pow_add, Nat.mul_assoc]
theorem fU_f {m : Nat} (h : m < 2139095040) : uo 23 m * 2 ^ 925 * 2 ^ (127 - 1 + 23) = uo 23 m * 2 ^ 1074 ∧ uo 23 m * 2 ^ 925 < 2 ^ (1075 + 127) ∧ (uo 23 m * 2 ^ 925 = 0 → m = 0) := by
  have hu : uo 23 m < 2 ^ (23 + 2 * 127) := uo_lt (B := 127) (by omega) (by omega)
  refine ⟨?_, ?_, ?_⟩
  · rw [Nat.mul_assoc, ← Nat.pow_add]
  · have := Nat.mul_lt_mul_of_pos_right hu (Nat.two_pow_pos 925)
    rw [← Nat.pow_add] at this
    exact this
  · intro z
    rcases Nat.mul_eq_zero.mp z with z | z
    · rw [← uo32] at z
      exact FP.Core.unitsOf_eq_zero.mp z
    · exact absurd z (Nat.ne_of_gt (Nat.two_pow_pos 925))
theorem f2d_vf {v : UInt32} (hf : FP.Core.FFin v) : vf_n64 (FP.f2d v) := by
  obtain ⟨s, c, q, e, _⟩ := fU hf
  refine vd_of ?_
  rw [e]
  exact FP.Core.Datum.noConfusion
theorem k_bitsOfFloat {d : Nat} {v : UInt32} {u : aS} {Q : aQ} (hf : FP.Core.FFin v) (hz : ¬ v = 2147483648) (h : Q (some (vI v.toInt32.toInt)) u) : wpm (d + 2) M_X7_bitsOfFloat [vF v] u Q := by
  have f0 : FP.Core.FFin 0 := fb_fin (fb_0 (E := 1) (by omega)) (by omega)
  have k0 : FP.Core.fkey 0 = 0 := by decide
  have hlt : v.toNat < 2 ^ 32 := v.toNat_lt
  have hzn : ¬ v.toNat = 2 ^ 31 := fun z => hz (UInt32.toNat_inj.mp z)
  have hm := (FP.Core.fin_bits32 v).mp hf
  have vf := f2d_vf hf
  have cg := cv_g hf f0
  rw [k0] at cg
  obtain ⟨s, c, q, e, ue, se⟩ := fU hf
  obtain ⟨p1, p2, p3⟩ := fU_f hm
  have hk : FP.Core.fkey v < 0 ↔ 2 ^ 31 ≤ v.toNat := by
    unfold FP.Core.fkey
    by_cases hs : 2 ^ 31 ≤ v.toNat
    · rw [if_pos hs]
      omega
    · rw [if_neg hs]
      omega
  refine e_X7_bitsOfFloat rfl (run [] 60 ?_)
  refine z_bq (fun hc => ?_) (fun hc => ?_)
  · have hs : 2 ^ 31 ≤ v.toNat := hk.mp (cg.mp hc)
    refine ⟨vf, ?_⟩
    have du : dU (FP.dneg (FP.f2d v)) (uo 23 (v.toNat % 2 ^ 31) * 2 ^ 925) := by
      refine ⟨c, q, ?_, ue⟩
      rw [FP.val64_dneg, e, se, decide_eq_true hs]
      rfl
    refine k_bitsOfSize (B := 127) (W := 23) (m := v.toNat % 2 ^ 31) (Or.inl ⟨rfl, rfl⟩) du p1 p2 p3 127 23 rfl rfl ?_
    refine z_bq (fun hd => ?_) (fun hd => absurd hc hd)
    refine q_eq h ?_
    rw [b_l2i_p (Nat.mod_lt _ (by decide))]
    exact bi_n (by omega) (by omega)
  · have hs : ¬ 2 ^ 31 ≤ v.toNat := fun z => hc (cg.mpr (hk.mpr z))
    refine ⟨vf, ?_⟩
    have du : dU (FP.f2d v) (uo 23 (v.toNat % 2 ^ 31) * 2 ^ 925) := by
      refine ⟨c, q, ?_, ue⟩
      rw [e, se, decide_eq_false hs]
    refine k_bitsOfSize (B := 127) (W := 23) (m := v.toNat % 2 ^ 31) (Or.inl ⟨rfl, rfl⟩) du p1 p2 p3 127 23 rfl rfl ?_
    refine z_bq (fun hd => absurd hd hc) (fun hd => ?_)
    refine q_eq h ?_
    rw [b_l2i_p (Nat.mod_lt _ (by decide)), bi_p (by omega)]
    omega
theorem c_fbits {d : Nat} {v : UInt32} {u : aS} {Q : aQ} (hf : FP.Core.FFin v) (h : Q (some (vI v.toInt32.toInt)) u) : wpm (d + 2) M_J_fbits [vF v] u Q := by
  have hc : (Op.cmpValue (FP.fcmp v v) .l).toInt = 0 := by
    show (Op.cmpValue (FP.Core.fcmp v v) .l).toInt = 0
    rw [FP.Core.fcmp_self hf.ne_nan]
    rfl
  refine e_J_fbits rfl (run [] 60 ?_)
  refine e_J_fnan (args := [vF v]) rfl (run [] 60 ?_)
  refine z_bq (fun hy => ?_) (fun hy => absurd hc hy)
  exact h
def oExact (K : So) (T : Tr) (t : Int) : Int := if ¬ (0 ≤ t ∧ t ≤ 127) then -2000000002 else (hdF K T t).toInt32.toInt
theorem k_exact {d : Nat} {t : Int} {u : aS} {Q : aQ} {A : Al} (hA : cA u A) (hZ : vSz A.1) (hF : vSf A.1) (hV : vTN A.2.2.2.1) (hQ : vQN A.1 A.2.2.2.1) (h : Q (some (vL (oExact A.1 A.2.2.2.1 t))) u) : wpm (d + 6) M_X7_exact [vR 8, vI t] u Q := by
  have z := hZ.1
  unfold oExact at h
  refine e_X7_exact rfl (run [] 60 ?_)
  refine k_isMoment (fun t0 t1 => ?_) (fun t0 => ?_)
  · rw [if_neg (by omega)] at h
    have hb := hdF_b t hZ hF hV hQ
    refine k_heardAt hA hZ hF hV hQ ⟨t0, t1⟩ ?_
    refine k_bitsOfFloat (fb_fin hb.1 (by omega)) hb.2 ?_
    exact h
  · rw [if_pos t0] at h
    exact h
theorem c_exact {d : Nat} {t : Int} {u : aS} {Q : aQ} {A : Al} (hA : mA u A) (hZ : vSz A.1) (hF : vSf A.1) (hV : vTN A.2.2.2.1) (hQ : vQN A.1 A.2.2.2.1) (h : Q (some (vL (oExact A.1 A.2.2.2.1 t))) u) : wpm (d + 5) M_X8_exact [vR 139, vI t] u Q := by
  have z := hZ.1
  unfold oExact at h
  refine e_X8_exact rfl (run [] 60 ?_)
  refine c_in (fun t0 t1 => ?_) (fun t0 => ?_)
  · rw [if_neg (by omega)] at h
    have hb := hdF_b t hZ hF hV hQ
    refine c_heardAt hA hZ hF hV hQ ⟨t0, t1⟩ ?_
    refine c_fbits (fb_fin hb.1 (by omega)) ?_
    exact h
  · rw [if_pos t0] at h
    exact h
