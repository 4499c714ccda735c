/-! the bits of a size: its end -/
def uo (W m : Nat) : Nat := if m < 2 ^ W then m else (2 ^ W + m % 2 ^ W) * 2 ^ (m / 2 ^ W - 1)
theorem sh_52 : ((List.range 2047).all fun k => decide (b_lshl (k : Int) 52 = ((k * 2 ^ 52 : Nat) : Int))) = true := by decide +kernel
theorem sh_23 : ((List.range 255).all fun k => decide (b_lshl (k : Int) 23 = ((k * 2 ^ 23 : Nat) : Int))) = true := by decide +kernel
theorem sh_b {B W : Nat} (h : (B = 127 ∧ W = 23) ∨ (B = 1023 ∧ W = 52)) {x : Int} (h0 : 0 ≤ x) (h1 : x ≤ 2 * B) : b_lshl x W = x * 2 ^ W := by
  rcases h with ⟨rfl, rfl⟩ | ⟨rfl, rfl⟩
  · have g := List.all_eq_true.mp sh_23 x.toNat (List.mem_range.mpr (by omega))
    rw [decide_eq_true_eq, show ((x.toNat : Nat) : Int) = x by omega] at g
    show b_lshl x 23 = x * 2 ^ 23
    rw [g]
    omega
  · have g := List.all_eq_true.mp sh_52 x.toNat (List.mem_range.mpr (by omega))
    rw [decide_eq_true_eq, show ((x.toNat : Nat) : Int) = x by omega] at g
    show b_lshl x 52 = x * 2 ^ 52
    rw [g]
    omega
theorem one_v {B W : Nat} (h : (B = 127 ∧ W = 23) ∨ (B = 1023 ∧ W = 52)) : FP.Core.val64 (FP.l2d (Int64.ofInt (b_lshl 1 W))) = .fin false (2 ^ 52) ((W : Int) - 52) := by
  rcases h with ⟨rfl, rfl⟩ | ⟨rfl, rfl⟩
  · decide +kernel
  · decide +kernel
theorem uo_ge {W m : Nat} (h : 2 ^ W ≤ m) : 1 ≤ m / 2 ^ W ∧ uo W m = (2 ^ W + m % 2 ^ W) * 2 ^ (m / 2 ^ W - 1) ∧ 2 ^ W * 2 ^ (m / 2 ^ W - 1) ≤ uo W m ∧ uo W m < 2 ^ (W + 1) * 2 ^ (m / 2 ^ W - 1) := by
  have hp := Nat.two_pow_pos W
  have e : uo W m = (2 ^ W + m % 2 ^ W) * 2 ^ (m / 2 ^ W - 1) := by
    unfold uo
    rw [if_neg (Nat.not_lt.mpr h)]
  have hm := Nat.mod_lt m hp
  refine ⟨(Nat.le_div_iff_mul_le hp).mpr (by rw [Nat.one_mul]; exact h), e, ?_, ?_⟩
  · rw [e]
    exact Nat.mul_le_mul_right _ (Nat.le_add_right _ _)
  · rw [e, Nat.pow_succ]
    refine Nat.mul_lt_mul_of_pos_right ?_ (Nat.two_pow_pos _)
    omega
theorem bits_end {B W : Nat} {E : Int} {n n0 m : Nat} (hB : 1 ≤ B) (hr : n * 2 ^ E.toNat = n0 * 2 ^ (-E).toNat) (hE : 1 - (B : Int) ≤ E) (h0 : n0 * 2 ^ (B - 1 + W) = uo W m * 2 ^ 1074) (hn : n < 2 ^ 1075) (hl : 2 ^ 1074 ≤ n ∨ E = 1 - (B : Int)) : (E + B) * 2 ^ W + ((n * 2 ^ W / 2 ^ 1074 : Nat) : Int) - 2 ^ W = m := by
  have hp := Nat.two_pow_pos W
  have h1074 := Nat.two_pow_pos 1074
  have key : n * 2 ^ W * 2 ^ (E + B - 1).toNat = uo W m * 2 ^ 1074 := by
    rw [← h0]
    by_cases hE0 : 0 ≤ E
    · rw [show (-E).toNat = 0 by omega, Nat.pow_zero, Nat.mul_one] at hr
      rw [← hr, show (E + B - 1).toNat = E.toNat + (B - 1) by omega, Nat.pow_add, Nat.pow_add, Nat.mul_assoc, Nat.mul_assoc]
      congr 1
      rw [← Nat.mul_assoc, Nat.mul_comm, Nat.mul_comm (2 ^ W), ← Nat.mul_assoc, Nat.mul_comm (2 ^ (B - 1)), Nat.mul_assoc]
    · rw [show E.toNat = 0 by omega, Nat.pow_zero, Nat.mul_one] at hr
      rw [hr, Nat.mul_assoc, Nat.mul_assoc]
      congr 1
      rw [← Nat.pow_add, ← Nat.pow_add]
      congr 1
      omega
  generalize hK : (E + B - 1).toNat = K at key
  have cW : ((2 ^ W : Nat) : Int) = (2 : Int) ^ W := by simp
  by_cases hA : 2 ^ 1074 ≤ n
  · have l1 : 2 ^ W * 2 ^ K ≤ uo W m := by
      refine Nat.le_of_mul_le_mul_right (c := 2 ^ 1074) ?_ h1074
      rw [← key, Nat.mul_comm, ← Nat.mul_assoc]
      exact Nat.mul_le_mul_right _ (Nat.mul_le_mul_right _ hA)
    have l2 : uo W m < 2 ^ (W + 1) * 2 ^ K := by
      refine Nat.lt_of_mul_lt_mul_right (a := 2 ^ 1074) ?_
      rw [← key]
      have : n * 2 ^ W * 2 ^ K < 2 ^ 1075 * 2 ^ W * 2 ^ K := Nat.mul_lt_mul_of_pos_right (Nat.mul_lt_mul_of_pos_right hn hp) (Nat.two_pow_pos _)
      refine Nat.lt_of_lt_of_le this (Nat.le_of_eq ?_)
      rw [← Nat.pow_add, ← Nat.pow_add, ← Nat.pow_add, ← Nat.pow_add]
      congr 1
      omega
    have hm : 2 ^ W ≤ m := by
      apply Classical.byContradiction
      intro hm
      have hm' := Nat.lt_of_not_le hm
      have e : uo W m = m := by
        unfold uo
        rw [if_pos hm']
      rw [e] at l1
      have : 2 ^ W * 1 ≤ 2 ^ W * 2 ^ K := Nat.mul_le_mul_left _ (Nat.two_pow_pos K)
      rw [Nat.mul_one] at this
      exact hm (Nat.le_trans this l1)
    obtain ⟨g1, g2, g3, g4⟩ := uo_ge hm
    have hKF : K = m / 2 ^ W - 1 := by
      have a1 : 2 ^ (W + K) < 2 ^ (W + 1 + (m / 2 ^ W - 1)) := by
        rw [Nat.pow_add, Nat.pow_add 2 (W + 1)]
        exact Nat.lt_of_le_of_lt l1 g4
      have a2 : 2 ^ (W + (m / 2 ^ W - 1)) < 2 ^ (W + 1 + K) := by
        rw [Nat.pow_add, Nat.pow_add 2 (W + 1)]
        exact Nat.lt_of_le_of_lt g3 l2
      have b1 := (Nat.pow_lt_pow_iff_right (a := 2) (by decide)).mp a1
      have b2 := (Nat.pow_lt_pow_iff_right (a := 2) (by decide)).mp a2
      omega
    rw [g2, ← hKF] at key
    have key2 : n * 2 ^ W = (2 ^ W + m % 2 ^ W) * 2 ^ 1074 := by
      refine Nat.eq_of_mul_eq_mul_right (Nat.two_pow_pos K) ?_
      rw [key, Nat.mul_assoc, Nat.mul_comm (2 ^ K), ← Nat.mul_assoc]
    rw [key2, Nat.mul_div_cancel _ h1074]
    have hd := Nat.div_add_mod m (2 ^ W)
    have hEB : E + B = ((m / 2 ^ W : Nat) : Int) := by omega
    rw [hEB, ← cW]
    have hc : ((m / 2 ^ W : Nat) : Int) * ((2 ^ W : Nat) : Int) = ((2 ^ W * (m / 2 ^ W) : Nat) : Int) := by
      rw [Nat.mul_comm]
      simp
    rw [hc]
    generalize 2 ^ W * (m / 2 ^ W) = aa at *
    generalize 2 ^ W = bb at *
    generalize m % bb = cc at *
    omega
  · have hEe : E = 1 - (B : Int) := by
      rcases hl with z | z
      · exact absurd z hA
      · exact z
    have hK0 : K = 0 := by omega
    rw [hK0, Nat.pow_zero, Nat.mul_one] at key
    rw [key, Nat.mul_div_cancel _ h1074]
    have hu : uo W m < 2 ^ W := by
      refine Nat.lt_of_mul_lt_mul_right (a := 2 ^ 1074) ?_
      rw [← key, Nat.mul_comm]
      exact Nat.mul_lt_mul_of_pos_left (Nat.lt_of_not_le hA) hp
    have hm : m < 2 ^ W := by
      apply Classical.byContradiction
      intro hm
      obtain ⟨g1, g2, g3, g4⟩ := uo_ge (Nat.le_of_not_lt hm)
      have : 2 ^ W * 1 ≤ 2 ^ W * 2 ^ (m / 2 ^ W - 1) := Nat.mul_le_mul_left _ (Nat.two_pow_pos _)
      rw [Nat.mul_one] at this
      exact absurd hu (Nat.not_lt.mpr (Nat.le_trans this g3))
    have e : uo W m = m := by
      unfold uo
      rw [if_pos hm]
    rw [e, show E + B = 1 by omega, Int.one_mul]
    omega
theorem q_lq {Q : aQ} {x y : Int} {u : aS} (h : Q (some (vL y)) u) (e : x = y) : Q (some (vL x)) u := e ▸ h
theorem k_bitsOfSize {d : Nat} {B W : Nat} {S : UInt64} {n0 m : Nat} {u : aS} {Q : aQ} (hbw : (B = 127 ∧ W = 23) ∨ (B = 1023 ∧ W = 52)) (hS : dU S n0) (h0 : n0 * 2 ^ (B - 1 + W) = uo W m * 2 ^ 1074) (hub : n0 < 2 ^ (1075 + B)) (hz : n0 = 0 → m = 0) (b w : Int) (eb : b = B) (ew : w = W) (h : Q (some (vL m)) u) : wpm (d + 1) M_X7_bitsOfSize [vD S, vI b, vI w] u Q := by
  have hB : 1 ≤ b ∧ b ≤ 1023 := by omega
  have hc := dcv_l hS dU_0c
  refine e_X7_bitsOfSize rfl (run [(14, [])] 60 ?_)
  refine z_bq (fun hy => ?_) (fun hy => ?_)
  · have hn : n0 = 0 := by
      rw [hc] at hy
      apply Classical.byContradiction
      intro hn
      rw [if_neg (Nat.not_lt_zero _), if_neg hn] at hy
      omega
    rw [hz hn] at h
    exact h
  · clear hy hc
    refine w_bits1 (n0 := n0) hB (fun L n k h1 h2 h3 h4 h5 h6 => ?_) b.toNat 0 S n0 (by omega) (by omega) hS (by show n0 * 2 ^ 0 = n0; rw [Nat.pow_zero, Nat.mul_one]) (fun z => by omega)
    have hn : n < 2 ^ 1075 := by
      rcases h6 with z | z
      · exact z
      · refine Nat.lt_of_mul_lt_mul_right (a := 2 ^ B) ?_
        rw [← Nat.pow_add, show (2 : Nat) ^ B = 2 ^ k.toNat by congr 1; omega, h2]
        exact hub
    refine w_bits2 (n0 := n0) hB (fun L2 n2 E g1 g2 g3 g4 g5 g6 => ?_) (k + b - 1).toNat k L n (by omega) h4 h1 (by rw [show (-k).toNat = 0 by omega, Nat.pow_zero, Nat.mul_one]; exact h2) hn h5
    have ov := one_v hbw
    have s1 : b_lshl 1 w = 2 ^ W := by
      rw [ew]
      have := sh_b hbw (x := 1) (by omega) (by omega)
      rw [Int.one_mul] at this
      exact this
    have s2 : b_lshl (E + b) w = (E + b) * 2 ^ W := by
      rw [ew]
      exact sh_b hbw (by omega) (by omega)
    have um := dU_mulp g1 ov (by omega) g5
    have be := bits_end (m := m) (by omega) g2 (by omega) h0 g5 (g6.elim Or.inl (fun z => Or.inr (by omega)))
    have hN : n2 * 2 ^ W / 2 ^ 1074 < 2 ^ (W + 1) := by
      refine (Nat.div_lt_iff_lt_mul (Nat.two_pow_pos 1074)).mpr ?_
      refine Nat.lt_of_lt_of_le (Nat.mul_lt_mul_of_pos_right g5 (Nat.two_pow_pos W)) (Nat.le_of_eq ?_)
      rw [← Nat.pow_add, ← Nat.pow_add]
      congr 1
      omega
    have hW2 : (2 : Nat) ^ (W + 1) ≤ 2 ^ 53 := Nat.pow_le_pow_right (by omega) (by omega)
    have hd := dU_d2l um (Nat.lt_of_lt_of_le hN (Nat.le_trans hW2 (Nat.pow_le_pow_right (by omega) (by omega))))
    have vn := vd_of (dU_nn um)
    have cW : ((2 ^ W : Nat) : Int) = (2 : Int) ^ W := by simp
    have hWb : (2 : Int) ^ W ≤ 4503599627370496 := by
      rcases hbw with ⟨_, rfl⟩ | ⟨_, rfl⟩ <;> decide
    have hWp : (0 : Int) < 2 ^ W := by
      rw [← cW]
      have := Nat.two_pow_pos W
      omega
    have hNb : n2 * 2 ^ W / 2 ^ 1074 < 9007199254740992 := Nat.lt_of_lt_of_le hN (Nat.le_trans hW2 (by decide))
    have hEB : 0 ≤ (E + b) * 2 ^ W ∧ (E + b) * 2 ^ W ≤ 2046 * 4503599627370496 := by
      refine ⟨Int.mul_nonneg (by omega) (by omega), ?_⟩
      exact Int.mul_le_mul (by omega) hWb (by omega) (by omega)
    rw [← eb] at be
    clear g2 g5 g6 hn h6 hub h0 hN hW2 h5 h2
    generalize n2 * 2 ^ W / 2 ^ 1074 = N at *
    rw [← ew] at vn hd
    refine run [] 60 ?_
    refine z_gq ⟨by omega, by omega⟩ ?_
    refine ⟨vn, ?_⟩
    refine z_lq ?_ ?_
    · rw [s2, hd]
      omega
    · refine z_lq ?_ ?_
      · rw [hd, s1, s2]
        omega
      · refine q_lq h ?_
        rw [hd, s1, s2]
        exact be
/-! floats and doubles -/
theorem uo32 (m : Nat) : FP.Core.unitsOf FP.Core.b32 m = uo 23 m := by
  unfold FP.Core.unitsOf uo
  rw [show FP.Core.b32.tails = 2 ^ 23 from FP.Core.tails_b32]
theorem uo64 (m : Nat) : FP.Core.unitsOf FP.Core.b64 m = uo 52 m := by
  unfold FP.Core.unitsOf uo
  rw [show FP.Core.b64.tails = 2 ^ 52 from FP.Core.tails_b64]
/-- a size, as a double -/
theorem dU_d {x : UInt64} (h : x.toNat < 9218868437227405312) : dU x (uo 52 x.toNat) := by
  have hm : x.toNat % 2 ^ 63 = x.toNat := Nat.mod_eq_of_lt (by omega)
  have hf : FP.Core.DFin x := (FP.Core.fin_bits x).mpr (by omega)
  have hn := hf.ne_nan
  have hz := FP.Core.zmag_bits hn
  have hs := FP.Core.sgn_bits hn
  obtain ⟨s, c, q, e⟩ := hf
  rw [e] at hz hs
  have hs' : s = false := by
    show FP.Core.sgn (.fin s c q) = false
    rw [hs]
    apply decide_eq_false
    omega
  subst hs'
  refine ⟨c, q, e, ?_⟩
  have hz' : FP.Core.inUnits c q FP.Core.b64.qmin = FP.Core.unitsOf FP.Core.b64 (x.toNat % 2 ^ 63) := hz
  rw [q64, hm, uo64] at hz'
  exact hz'
theorem uo_lt {W B m : Nat} (hB : 1 ≤ B) (h : m < (2 * B + 1) * 2 ^ W) : uo W m < 2 ^ (W + 2 * B) := by
  have hp := Nat.two_pow_pos W
  by_cases hm : m < 2 ^ W
  · unfold uo
    rw [if_pos hm]
    exact Nat.lt_of_lt_of_le hm (Nat.pow_le_pow_right (by omega) (by omega))
  · obtain ⟨g1, g2, g3, g4⟩ := uo_ge (Nat.le_of_not_lt hm)
    have hd : m / 2 ^ W < 2 * B + 1 := (Nat.div_lt_iff_lt_mul hp).mpr h
    refine Nat.lt_of_lt_of_le g4 ?_
    rw [← Nat.pow_add]
    exact Nat.pow_le_pow_right (by omega) (by omega)
theorem bits_d {x : UInt64} (h : x.toNat < 9218868437227405312) : uo 52 x.toNat * 2 ^ (1023 - 1 + 52) = uo 52 x.toNat * 2 ^ 1074 ∧ uo 52 x.toNat < 2 ^ (1075 + 1023) ∧ (uo 52 x.toNat = 0 → x.toNat = 0) := by
  refine ⟨rfl, ?_, ?_⟩
  · exact uo_lt (B := 1023) (by omega) (by omega)
  · intro z
    rw [← uo64] at z
    exact FP.Core.unitsOf_eq_zero.mp z
theorem k_dbits {d : Nat} {x : UInt64} {u : aS} {Q : aQ} (h0 : x.toNat < 9218868437227405312) (h : Q (some (vL (x.toNat : Int))) u) : wpm (d + 1) M_X7_bitsOfSize [vD x, vI 1023, vI 52] u Q := by
  obtain ⟨a, b, c⟩ := bits_d h0
  exact k_bitsOfSize (B := 1023) (W := 52) (Or.inr ⟨rfl, rfl⟩) (dU_d h0) a b c 1023 52 rfl rfl h
