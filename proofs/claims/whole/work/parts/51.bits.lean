/-! the bits of a size -/
def dU (x : UInt64) (n : Nat) : Prop := ∃ c q, FP.Core.val64 x = .fin false c q ∧ FP.Core.inUnits c q (-1074) = n
theorem q64 : FP.Core.b64.qmin = -1074 := by decide
theorem x64 : FP.Core.b64.qmax = 971 := by decide
theorem t64 : FP.Core.b64.tails = 2 ^ 52 := by decide
theorem vd_of {r : UInt64} (h : FP.Core.val64 r ≠ .nan) : vf_n64 r := by
  have h1 := (FP.Core.ne_nan r).mp h
  unfold vf_n64
  rw [UInt64.le_iff_toNat_le, UInt64.toNat_and]
  have e : (0x7fffffffffffffff : UInt64).toNat = 2 ^ 63 - 1 := rfl
  rw [e, Nat.and_two_pow_sub_one_eq_mod]
  exact h1
theorem dU_nn {x : UInt64} {n : Nat} (h : dU x n) : FP.Core.val64 x ≠ .nan := by
  obtain ⟨c, q, e, _⟩ := h
  rw [e]
  exact FP.Core.Datum.noConfusion
theorem dU_fit {x : UInt64} {c : Nat} {q : Int} (h : FP.Core.val64 x = .fin false c q) : c < 2 ^ 53 ∧ -1074 ≤ q ∧ q ≤ 971 ∧ (q = -1074 ∨ 2 ^ 52 ≤ c) := by
  have f := FP.Core.val64_fits x
  rw [h] at f
  obtain ⟨f1, f2, f3, f4⟩ := f
  rw [q64] at f2 f4
  rw [x64] at f3
  rw [t64] at f4
  exact ⟨f1, f2, f3, f4⟩
theorem dU_z {x : UInt64} {n : Nat} (h : dU x n) : FP.Core.zval FP.Core.b64 (FP.Core.val64 x) = n := by
  obtain ⟨c, q, e, h2⟩ := h
  rw [e]
  unfold FP.Core.zval
  show (FP.Core.inUnits c q FP.Core.b64.qmin : Int) = n
  rw [q64, h2]
theorem dU_round {x : UInt64} {c : Nat} {q : Int} (hx : FP.Core.val64 x = FP.Core.round FP.Core.b64 (.fin false c q)) (hc : c < 2 ^ 53) (h1 : -1074 ≤ q) (h2 : q ≤ 971) : dU x (FP.Core.inUnits c q (-1074)) := by
  obtain ⟨c', q', e, u⟩ := FP.Core.round_exact FP.Core.good_b64 false (c := c) (q := q) hc (by rw [q64]; exact h1) (by rw [x64]; exact h2)
  rw [q64] at u
  exact ⟨c', q', hx.trans e, u⟩
theorem dU_2 : FP.Core.val64 4611686018427387904 = .fin false (2 ^ 52) (-51) := by decide +kernel
theorem inU_s (c : Nat) {q : Int} (h : -1074 ≤ q) (k : Nat) : FP.Core.inUnits c (q + k) (-1074) = FP.Core.inUnits c q (-1074) * 2 ^ k := by
  unfold FP.Core.inUnits
  rw [show (q + (k : Int) - -1074).toNat = (q - -1074).toNat + k by omega, Nat.pow_add, Nat.mul_assoc]
theorem dU_mulp {x y : UInt64} {n k : Nat} (hx : dU x n) (hy : FP.Core.val64 y = .fin false (2 ^ 52) ((k : Int) - 52)) (hk : k ≤ 52) (hn : n < 2 ^ 1075) : dU (FP.dmul x y) (n * 2 ^ k) := by
  obtain ⟨c, q, e, u⟩ := hx
  obtain ⟨f1, f2, f3, f4⟩ := dU_fit e
  have hq : q ≤ 900 := by
    apply Classical.byContradiction
    intro hq
    have hc : 2 ^ 52 ≤ c := by omega
    have h3 : 2 ^ 52 * 2 ^ (q - -1074).toNat ≤ n := by
      rw [← u]
      exact Nat.mul_le_mul_right _ hc
    rw [← Nat.pow_add] at h3
    have h4 : 2 ^ 1075 ≤ 2 ^ (52 + (q - -1074).toNat) := Nat.pow_le_pow_right (by omega) (by omega)
    exact absurd hn (Nat.not_lt.mpr (Nat.le_trans h4 h3))
  have hv : FP.Core.val64 (FP.dmul x y) = FP.Core.round FP.Core.b64 (.fin false c (q + k)) := by
    show FP.Core.val64 (FP.Core.dmul x y) = _
    rw [FP.Core.val64_dmul, e, hy]
    show FP.Core.roundRatio FP.Core.b64 (false != false) (c * 2 ^ 52) 1 (q + ((k : Int) - 52)) = FP.Core.roundRatio FP.Core.b64 false c 1 (q + k)
    refine FP.Core.roundRatio_congr (by decide) (by decide) ?_
    rw [show (q + ((k : Int) - 52) - (q + k)).toNat = 0 by omega, show (q + (k : Int) - (q + ((k : Int) - 52))).toNat = 52 by omega]
    omega
  have := dU_round hv f1 (by omega) (by omega)
  rw [inU_s c f2 k, u] at this
  exact this
theorem dU_mul2 {x : UInt64} {n : Nat} (hx : dU x n) (hn : n < 2 ^ 1075) : dU (FP.dmul x 4611686018427387904) (n * 2) := dU_mulp (k := 1) hx dU_2 (by omega) hn
theorem dU_div2 {x : UInt64} {n : Nat} (hx : dU x n) (hn : 2 ^ 1075 ≤ n) : ∃ n', n = n' * 2 ∧ dU (FP.ddiv x 4611686018427387904) n' := by
  obtain ⟨c, q, e, u⟩ := hx
  obtain ⟨f1, f2, f3, f4⟩ := dU_fit e
  have hq : -1073 ≤ q := by
    apply Classical.byContradiction
    intro hq
    have eq : q = -1074 := by omega
    rw [eq] at u
    have u' : c * 2 ^ 0 = n := u
    have h4 : 2 ^ 53 ≤ 2 ^ 1075 := Nat.pow_le_pow_right (by omega) (by omega)
    rw [Nat.pow_zero, Nat.mul_one] at u'
    rw [← u'] at hn
    exact absurd f1 (Nat.not_lt.mpr (Nat.le_trans h4 hn))
  have hv : FP.Core.val64 (FP.ddiv x 4611686018427387904) = FP.Core.round FP.Core.b64 (.fin false c (q - 1)) := by
    show FP.Core.val64 (FP.Core.ddiv x 4611686018427387904) = _
    rw [FP.Core.val64_ddiv, e, dU_2]
    show FP.Core.roundRatio FP.Core.b64 (false != false) c (2 ^ 52) (q - -51) = FP.Core.roundRatio FP.Core.b64 false c 1 (q - 1)
    refine FP.Core.roundRatio_congr (by decide) (by decide) ?_
    rw [show (q - -51 - (q - 1)).toNat = 52 by omega, show (q - 1 - (q - -51)).toNat = 0 by omega]
    omega
  refine ⟨FP.Core.inUnits c (q - 1) (-1074), ?_, dU_round hv f1 (by omega) (by omega)⟩
  rw [← u]
  have := inU_s c (q := q - 1) (by omega) 1
  rw [show q - 1 + ((1 : Nat) : Int) = q by omega] at this
  rw [this]
theorem dU_1c : dU 4607182418800017408 (2 ^ 1074) := ⟨2 ^ 52, -52, by decide +kernel, by decide +kernel⟩
theorem dU_2c : dU 4611686018427387904 (2 ^ 1075) := ⟨2 ^ 52, -51, dU_2, by decide +kernel⟩
theorem dU_0c : dU 0 0 := ⟨0, -1074, by decide +kernel, by decide +kernel⟩
theorem dcv_l {a b : UInt64} {n m : Nat} (ha : dU a n) (hb : dU b m) : (Op.cmpValue (FP.dcmp a b) .l).toInt = if n < m then -1 else if n = m then 0 else 1 := by
  have na := dU_nn ha
  have nb := dU_nn hb
  have za := dU_z ha
  have zb := dU_z hb
  show (Op.cmpValue (FP.Core.dcmp a b) .l).toInt = _
  by_cases h1 : n < m
  · rw [(FP.Core.dcmp_lt.mpr ⟨na, nb, by omega⟩ : FP.Core.dcmp a b = some .lt), if_pos h1]
    rfl
  · rw [if_neg h1]
    by_cases h2 : n = m
    · rw [(FP.Core.dcmp_eq.mpr ⟨na, nb, by omega⟩ : FP.Core.dcmp a b = some .eq), if_pos h2]
      rfl
    · rw [(FP.Core.dcmp_gt.mpr ⟨na, nb, by omega⟩ : FP.Core.dcmp a b = some .gt), if_neg h2]
      rfl
theorem dcv_g {a b : UInt64} {n m : Nat} (ha : dU a n) (hb : dU b m) : (Op.cmpValue (FP.dcmp a b) .g).toInt = if n < m then -1 else if n = m then 0 else 1 := by
  have na := dU_nn ha
  have nb := dU_nn hb
  have za := dU_z ha
  have zb := dU_z hb
  show (Op.cmpValue (FP.Core.dcmp a b) .g).toInt = _
  by_cases h1 : n < m
  · rw [(FP.Core.dcmp_lt.mpr ⟨na, nb, by omega⟩ : FP.Core.dcmp a b = some .lt), if_pos h1]
    rfl
  · rw [if_neg h1]
    by_cases h2 : n = m
    · rw [(FP.Core.dcmp_eq.mpr ⟨na, nb, by omega⟩ : FP.Core.dcmp a b = some .eq), if_pos h2]
      rfl
    · rw [(FP.Core.dcmp_gt.mpr ⟨na, nb, by omega⟩ : FP.Core.dcmp a b = some .gt), if_neg h2]
      rfl
theorem dU_d2l {x : UInt64} {n : Nat} (h : dU x n) (hn : n / 2 ^ 1074 < 2 ^ 62) : (FP.d2l x).toInt = ((n / 2 ^ 1074 : Nat) : Int) := by
  obtain ⟨c, q, e, u⟩ := h
  obtain ⟨f1, f2, f3, f4⟩ := dU_fit e
  have ht : FP.Core.truncate false c q = ((n / 2 ^ 1074 : Nat) : Int) := by
    show ((c * 2 ^ q.toNat / 2 ^ (-q).toNat : Nat) : Int) = _
    congr 1
    rw [← u]
    unfold FP.Core.inUnits
    by_cases hq : 0 ≤ q
    · rw [show (-q).toNat = 0 by omega, show (q - -1074).toNat = q.toNat + 1074 by omega, Nat.pow_zero, Nat.div_one, Nat.pow_add, ← Nat.mul_assoc, Nat.mul_div_cancel _ (Nat.two_pow_pos 1074)]
    · rw [show q.toNat = 0 by omega, Nat.pow_zero, Nat.mul_one, show (2 : Nat) ^ 1074 = 2 ^ (-q).toNat * 2 ^ (q - -1074).toNat by rw [← Nat.pow_add]; congr 1; omega, Nat.mul_div_mul_right _ _ (Nat.two_pow_pos _)]
  show (FP.Core.toL (FP.Core.val64 x)).toInt = _
  rw [e]
  show (Int64.ofInt (max (-2 ^ 63) (min (2 ^ 63 - 1) (FP.Core.truncate false c q)))).toInt = _
  rw [ht]
  generalize n / 2 ^ 1074 = k at hn
  rw [show max (-2 ^ 63) (min (2 ^ 63 - 1) (k : Int)) = (k : Int) by omega]
  exact Int64.toInt_ofInt_of_le (by omega) (by omega)
/-! the loops -/
/-- a fact that omega does not open -/
def fbox (p : Prop) : Prop := p
theorem pw_dvd {a b : Nat} (h : 2 ^ 1075 ≤ a * 2) : 2 ^ 1074 ≤ a := by
  rw [show (2 : Nat) ^ 1075 = 2 ^ 1074 * 2 from Nat.pow_succ ..] at h
  exact Nat.le_of_mul_le_mul_right h (by omega)
theorem w_bits1 {d : Nat} {Q : aQ} {b w : Int} {S : UInt64} {n0 : Nat} {u : aS} {x1 w7 w8 : aV} (hb : 1 ≤ b ∧ b ≤ 1023) {c s : Nat} (h : ∀ (L : UInt64) (n : Nat) (k : Int), dU L n → n * 2 ^ k.toNat = n0 → 0 ≤ k → k ≤ b → (0 < k → 2 ^ 1074 ≤ n) → (n < 2 ^ 1075 ∨ k = b) → wp (wpm d) cd_X7_bitsOfSize Q 43 [vD S, x1, vI b, vI w, vD L, vU, vI k, w7, w8] [] u c s) : ∀ (m : Nat) (k : Int) (L : UInt64) (n : Nat), k + m = b → 0 ≤ k → dU L n → n * 2 ^ k.toNat = n0 → (0 < k → 2 ^ 1074 ≤ n) → wp (wpm d) cd_X7_bitsOfSize Q 14 [vD S, x1, vI b, vI w, vD L, vU, vI k, w7, w8] [] u c s
  | 0, k, L, n, h1, h0, h2, h3, h4 => by
    have hc := dcv_l h2 dU_2c
    refine run [(14, []), (43, [])] 60 ?_
    refine z_bq (fun hz => ?_) (fun hz => ?_)
    · refine h L n k h2 h3 h0 (by omega) h4 (Or.inl ?_)
      rw [hc] at hz
      apply Classical.byContradiction
      intro hn
      rw [if_neg hn] at hz
      split at hz <;> omega
    · refine z_bq (fun hy => by omega) (fun hy => ?_)
      exact h L n k h2 h3 h0 (by omega) h4 (Or.inr (by omega))
  | m + 1, k, L, n, h1, h0, h2, h3, h4 => by
    have hc := dcv_l h2 dU_2c
    refine run [(14, []), (43, [])] 60 ?_
    refine z_bq (fun hz => ?_) (fun hz => ?_)
    · refine h L n k h2 h3 h0 (by omega) h4 (Or.inl ?_)
      rw [hc] at hz
      apply Classical.byContradiction
      intro hn
      rw [if_neg hn] at hz
      split at hz <;> omega
    · have hn : 2 ^ 1075 ≤ n := by
        apply Classical.byContradiction
        intro hn
        rw [hc, if_pos (Nat.lt_of_not_le hn)] at hz
        omega
      refine z_bq (fun hy => ?_) (fun hy => by omega)
      obtain ⟨n', e1, e2⟩ := dU_div2 h2 hn
      have p1 : 2 ^ 1074 ≤ n' := pw_dvd (b := 0) (by rw [← e1]; exact hn)
      have p2 : 0 < k + 1 → 2 ^ 1074 ≤ n' := fun _ => p1
      clear hn p1 hz hc
      refine ⟨vd_of (dU_nn e2), ?_⟩
      refine z_gq ⟨by omega, by omega⟩ ?_
      exact w_bits1 hb h m (k + 1) (FP.ddiv L 4611686018427387904) n' (by omega) (by omega) e2 (by rw [← h3, e1, show (k + 1).toNat = k.toNat + 1 by omega, Nat.pow_succ, Nat.mul_assoc, Nat.mul_comm 2]) p2
theorem w_bits2 {d : Nat} {Q : aQ} {b w : Int} {S : UInt64} {n0 : Nat} {u : aS} {x1 w7 w8 : aV} (hb : 1 ≤ b ∧ b ≤ 1023) {c s : Nat} (h : ∀ (L : UInt64) (n : Nat) (E : Int), dU L n → n * 2 ^ E.toNat = n0 * 2 ^ (-E).toNat → 1 - b ≤ E → E ≤ b → n < 2 ^ 1075 → (2 ^ 1074 ≤ n ∨ E = 1 - b) → wp (wpm d) cd_X7_bitsOfSize Q 72 [vD S, x1, vI b, vI w, vD L, vU, vI E, w7, w8] [] u c s) : ∀ (m : Nat) (E : Int) (L : UInt64) (n : Nat), E - m = 1 - b → E ≤ b → dU L n → n * 2 ^ E.toNat = n0 * 2 ^ (-E).toNat → n < 2 ^ 1075 → (0 < E → 2 ^ 1074 ≤ n) → wp (wpm d) cd_X7_bitsOfSize Q 43 [vD S, x1, vI b, vI w, vD L, vU, vI E, w7, w8] [] u c s
  | 0, E, L, n, h1, h2, h3, h4, h5, h6 => by
    have hc := dcv_g h3 dU_1c
    refine run [(43, []), (72, [])] 60 ?_
    refine z_bq (fun hz => ?_) (fun hz => ?_)
    · refine z_gq ⟨by omega, by omega⟩ ?_
      refine z_bq (fun hy => by omega) (fun hy => ?_)
      exact h L n E h3 h4 (by omega) h2 h5 (Or.inr (by omega))
    · exact h L n E h3 h4 (by omega) h2 h5 (Or.inr (by omega))
  | m + 1, E, L, n, h1, h2, h3, h4, h5, h6 => by
    have hc := dcv_g h3 dU_1c
    refine run [(43, []), (72, [])] 60 ?_
    refine z_bq (fun hz => ?_) (fun hz => ?_)
    · have hn : n < 2 ^ 1074 := by
        rw [hc] at hz
        apply Classical.byContradiction
        intro hn
        rw [if_neg hn] at hz
        split at hz <;> omega
      have e2 := dU_mul2 h3 h5
      have hE : E ≤ 0 := by
        apply Classical.byContradiction
        intro hE
        exact absurd hn (Nat.not_lt.mpr (h6 (Int.lt_of_not_ge hE)))
      have hn2 : n * 2 < 2 ^ 1075 := by
        rw [show (2 : Nat) ^ 1075 = 2 ^ 1074 * 2 from Nat.pow_succ ..]
        exact Nat.mul_lt_mul_of_pos_right hn (Nat.zero_lt_succ 1)
      have hn3 : fbox (n * 2 < 2 ^ 1075) := hn2
      clear hn h5 hn2 hz hc
      refine z_gq ⟨by omega, by omega⟩ ?_
      refine z_bq (fun hy => ?_) (fun hy => by omega)
      refine ⟨vd_of (dU_nn e2), ?_⟩
      refine z_gq ⟨by omega, by omega⟩ ?_
      refine w_bits2 hb h m (E + -1) _ (n * 2) (by omega) (by omega) e2 ?_ hn3 (fun z => by omega)
      rw [show E.toNat = 0 by omega, Nat.pow_zero, Nat.mul_one] at h4
      rw [show (E + -1).toNat = 0 by omega, Nat.pow_zero, Nat.mul_one, show (-(E + -1)).toNat = (-E).toNat + 1 by omega, Nat.pow_succ, ← Nat.mul_assoc, ← h4]
    · refine h L n E h3 h4 (by omega) h2 h5 (Or.inl ?_)
      apply Classical.byContradiction
      intro hn
      rw [hc, if_pos (Nat.lt_of_not_le hn)] at hz
      omega
