/-! racks: the model -/
theorem w_thingsOn {d : Nat} {Q : aQ} {u : aS} {k : Int} (hS : mS u) (hk : 0 ≤ k ∧ k ≤ 2) {c s : Nat} : ∀ (n : Nat) (i r : Int), i + n = 8 → 0 ≤ i → 0 ≤ r → r ≤ 100 - n → Q (some (vI (r + cn (fun i => decide (hI u 153 k ≠ -1) && decide (i < hI u 154 k) && decide (0 < hI u 155 (8 * k + i))) n i))) u → wp (wpm d) cd_X8_thingsOn Q 4 [vR 139, vI k, vI r, vI i] [] u c s
  | 0, i, r, h1, h2, h3, h4, h => by
    refine run [(4, [])] 40 ?_
    refine z_bq (fun hl => ?_) (fun hl => ?_)
    · omega
    · rw [cn_0, Int.add_zero] at h
      exact h
  | n + 1, i, r, h1, h2, h3, h4, h => by
    rw [cn_s] at h
    refine run [(4, [])] 40 ?_
    refine z_bq (fun hl => ?_) (fun hl => by omega)
    repeat first
      | refine z_gq (by omega) ?_
      | refine z_iq rfl (by omega) (by omega) ?_
      | refine z_dq (mS.sort hS) ?_
    refine z_bq (fun ha => ?_) (fun ha => ?_)
    · repeat first
        | refine z_gq (by omega) ?_
        | refine z_iq rfl (by omega) (by omega) ?_
        | refine z_dq (mS.now hS) ?_
        | refine z_dq (mS.floats hS) ?_
        | refine z_dq (mS.sizes hS) ?_
        | refine z_dq (mS.shut hS) ?_
        | refine z_dq (mS.past hS) ?_
        | refine z_dq (mS.deeds hS) ?_
        | refine z_dq (mS.images hS) ?_
        | refine z_dq (mS.imageShut hS) ?_
        | refine z_dq (mS.kept hS) ?_
        | refine z_dq (mS.owner hS) ?_
        | refine z_dq (mS.old hS) ?_
        | refine z_dq (mS.letters hS) ?_
        | refine z_dq (mS.toldSizes hS) ?_
        | refine z_dq (mS.sort hS) ?_
        | refine z_dq (mS.room hS) ?_
        | refine z_dq (mS.things hS) ?_
      refine w_thingsOn hS hk n (i + 1) (r + 0) (by omega) (by omega) (by omega) (by omega) ?_
      rw [if_neg (by simp [ha]), Int.zero_add] at h
      rw [Int.add_zero]
      exact h
    · repeat first
        | refine z_gq (by omega) ?_
        | refine z_iq rfl (by omega) (by omega) ?_
        | refine z_dq (mS.now hS) ?_
        | refine z_dq (mS.floats hS) ?_
        | refine z_dq (mS.sizes hS) ?_
        | refine z_dq (mS.shut hS) ?_
        | refine z_dq (mS.past hS) ?_
        | refine z_dq (mS.deeds hS) ?_
        | refine z_dq (mS.images hS) ?_
        | refine z_dq (mS.imageShut hS) ?_
        | refine z_dq (mS.kept hS) ?_
        | refine z_dq (mS.owner hS) ?_
        | refine z_dq (mS.old hS) ?_
        | refine z_dq (mS.letters hS) ?_
        | refine z_dq (mS.toldSizes hS) ?_
        | refine z_dq (mS.sort hS) ?_
        | refine z_dq (mS.room hS) ?_
        | refine z_dq (mS.things hS) ?_
      refine z_bq (fun hb => ?_) (fun hb => ?_)
      · repeat first
          | refine z_gq (by omega) ?_
          | refine z_iq rfl (by omega) (by omega) ?_
          | refine z_dq (mS.now hS) ?_
          | refine z_dq (mS.floats hS) ?_
          | refine z_dq (mS.sizes hS) ?_
          | refine z_dq (mS.shut hS) ?_
          | refine z_dq (mS.past hS) ?_
          | refine z_dq (mS.deeds hS) ?_
          | refine z_dq (mS.images hS) ?_
          | refine z_dq (mS.imageShut hS) ?_
          | refine z_dq (mS.kept hS) ?_
          | refine z_dq (mS.owner hS) ?_
          | refine z_dq (mS.old hS) ?_
          | refine z_dq (mS.letters hS) ?_
          | refine z_dq (mS.toldSizes hS) ?_
          | refine z_dq (mS.sort hS) ?_
          | refine z_dq (mS.room hS) ?_
          | refine z_dq (mS.things hS) ?_
        refine z_bq (fun hc => ?_) (fun hc => ?_)
        · repeat first
            | refine z_gq (by omega) ?_
            | refine z_iq rfl (by omega) (by omega) ?_
            | refine z_dq (mS.now hS) ?_
            | refine z_dq (mS.floats hS) ?_
            | refine z_dq (mS.sizes hS) ?_
            | refine z_dq (mS.shut hS) ?_
            | refine z_dq (mS.past hS) ?_
            | refine z_dq (mS.deeds hS) ?_
            | refine z_dq (mS.images hS) ?_
            | refine z_dq (mS.imageShut hS) ?_
            | refine z_dq (mS.kept hS) ?_
            | refine z_dq (mS.owner hS) ?_
            | refine z_dq (mS.old hS) ?_
            | refine z_dq (mS.letters hS) ?_
            | refine z_dq (mS.toldSizes hS) ?_
            | refine z_dq (mS.sort hS) ?_
            | refine z_dq (mS.room hS) ?_
            | refine z_dq (mS.things hS) ?_
          refine w_thingsOn hS hk n (i + 1) (r + 1) (by omega) (by omega) (by omega) (by omega) ?_
          rw [if_pos (by simp [ha, hb, hc]), ← Int.add_assoc] at h
          exact h
        · repeat first
            | refine z_gq (by omega) ?_
            | refine z_iq rfl (by omega) (by omega) ?_
            | refine z_dq (mS.now hS) ?_
            | refine z_dq (mS.floats hS) ?_
            | refine z_dq (mS.sizes hS) ?_
            | refine z_dq (mS.shut hS) ?_
            | refine z_dq (mS.past hS) ?_
            | refine z_dq (mS.deeds hS) ?_
            | refine z_dq (mS.images hS) ?_
            | refine z_dq (mS.imageShut hS) ?_
            | refine z_dq (mS.kept hS) ?_
            | refine z_dq (mS.owner hS) ?_
            | refine z_dq (mS.old hS) ?_
            | refine z_dq (mS.letters hS) ?_
            | refine z_dq (mS.toldSizes hS) ?_
            | refine z_dq (mS.sort hS) ?_
            | refine z_dq (mS.room hS) ?_
            | refine z_dq (mS.things hS) ?_
          refine w_thingsOn hS hk n (i + 1) (r + 0) (by omega) (by omega) (by omega) (by omega) ?_
          rw [if_neg (by simp [hc]), Int.zero_add] at h
          rw [Int.add_zero]
          exact h
      · repeat first
          | refine z_gq (by omega) ?_
          | refine z_iq rfl (by omega) (by omega) ?_
          | refine z_dq (mS.now hS) ?_
          | refine z_dq (mS.floats hS) ?_
          | refine z_dq (mS.sizes hS) ?_
          | refine z_dq (mS.shut hS) ?_
          | refine z_dq (mS.past hS) ?_
          | refine z_dq (mS.deeds hS) ?_
          | refine z_dq (mS.images hS) ?_
          | refine z_dq (mS.imageShut hS) ?_
          | refine z_dq (mS.kept hS) ?_
          | refine z_dq (mS.owner hS) ?_
          | refine z_dq (mS.old hS) ?_
          | refine z_dq (mS.letters hS) ?_
          | refine z_dq (mS.toldSizes hS) ?_
          | refine z_dq (mS.sort hS) ?_
          | refine z_dq (mS.room hS) ?_
          | refine z_dq (mS.things hS) ?_
        refine w_thingsOn hS hk n (i + 1) (r + 0) (by omega) (by omega) (by omega) (by omega) ?_
        rw [if_neg (by simp [hb]), Int.zero_add] at h
        rw [Int.add_zero]
        exact h
theorem c_thingsOn {d : Nat} {k : Int} {u : aS} {Q : aQ} (hS : mS u) (hk : 0 ≤ k ∧ k ≤ 2) (h : Q (some (vI (tOn (hI u 153, hI u 154, hI u 155) k))) u) : wpm (d + 1) M_X8_thingsOn [vR 139, vI k] u Q := by
  refine e_X8_thingsOn rfl (run [(4, [])] 40 ?_)
  refine w_thingsOn hS hk 8 0 0 (by omega) (by omega) (by omega) (by omega) ?_
  rw [Int.zero_add]
  exact h

theorem w_rack {d : Nat} {Q : aQ} {k a b : Int} (hk : 0 ≤ k ∧ k ≤ 2) {c s : Nat} : ∀ (n : Nat) (i : Int) (u : aS), mS u → i + n = 8 → 0 ≤ i → Q (some (vI b)) (fl u 155 (8 * k + i) (8 * k + 8) 0) → wp (wpm d) cd_X8_rack Q 55 [vR 139, vI k, vI a, vI b, vI i] [] u c s
  | 0, i, u, hS, h1, h2, h => by
    refine run [(55, [])] 40 ?_
    refine z_bq (fun hl => ?_) (fun hl => ?_)
    · omega
    · rw [fl_end u 155 0 (by omega)] at h
      exact h
  | n + 1, i, u, hS, h1, h2, h => by
    refine run [(55, [])] 40 ?_
    refine z_bq (fun hl => ?_) (fun hl => by omega)
    repeat first
      | refine z_gq (by omega) ?_
      | refine z_iq rfl (by omega) (by omega) ?_
      | refine z_dq (mS.things hS) ?_
    refine w_rack hk n (i + 1) (sI u 155 (8 * k + i) 0) hS (by omega) (by omega) ?_
    rw [← fl_step u 155 0 (by omega)] at h
    rw [show 8 * k + (i + 1) = 8 * k + i + 1 by omega]
    exact h
theorem tOn_e {K K' : Rk} {k : Int} (h1 : K.1 k = K'.1 k) (h2 : K.2.1 k = K'.2.1 k) (h3 : ∀ i, 0 ≤ i → i < 8 → K.2.2 (8 * k + i) = K'.2.2 (8 * k + i)) : tOn K k = tOn K' k := by
  unfold tOn
  refine cn_e 8 0 (fun j a b => ?_)
  simp only [h1, h2, h3 j a (by omega)]
/-- rack, of the model -/
theorem c_rack {d : Nat} {r a n : Int} {u : aS} {Q : aQ} {A : Al} (hA : mA u A) (h : ∀ u', mA u' (A.1, A.2.1, (oRack A.2.2.1 r a n).2, A.2.2.2) → fM u u' → Q (some (vI (oRack A.2.2.1 r a n).1)) u') : wpm (d + 3) M_X8_rack [vR 139, vI r, vI a, vI n] u Q := by
  have hS := hA.1
  have hK := hA.2.2.2.1
  unfold oRack at h
  refine e_X8_rack rfl (run [(55, [])] 40 ?_)
  refine c_isRack (fun r0 r1 => ?_) (fun r0 => ?_)
  · rw [if_neg (by omega)] at h
    refine c_in (fun a0 a1 => ?_) (fun a0 => ?_)
    · refine z_bq (fun hn => ?_) (fun hn => ?_)
      · rw [if_pos (by omega)] at h
        exact h u hA (fM_rfl u)
      · rw [if_neg (by omega)] at h
        refine z_bq (fun hm => ?_) (fun hm => ?_)
        · rw [if_pos hm] at h
          exact h u hA (fM_rfl u)
        · rw [if_neg hm] at h
          repeat first
            | refine z_gq (by omega) ?_
            | refine z_iq rfl (by omega) (by omega) ?_
            | refine z_dq (mS.now hS) ?_
            | refine z_dq (mS.floats hS) ?_
            | refine z_dq (mS.sizes hS) ?_
            | refine z_dq (mS.shut hS) ?_
            | refine z_dq (mS.past hS) ?_
            | refine z_dq (mS.deeds hS) ?_
            | refine z_dq (mS.images hS) ?_
            | refine z_dq (mS.imageShut hS) ?_
            | refine z_dq (mS.kept hS) ?_
            | refine z_dq (mS.owner hS) ?_
            | refine z_dq (mS.old hS) ?_
            | refine z_dq (mS.letters hS) ?_
            | refine z_dq (mS.toldSizes hS) ?_
            | refine z_dq (mS.sort hS) ?_
            | refine z_dq (mS.room hS) ?_
            | refine z_dq (mS.things hS) ?_
          refine w_rack ⟨r0, r1⟩ 8 0 _ hS (by omega) (by omega) ?_
          refine h _ ⟨hS, hA.2.1, hA.2.2.1, ⟨fun q q0 q1 => ⟨?_, ?_⟩, fun j j0 j1 => ?_⟩, hA.2.2.2.2⟩ (fM_tr (fM_sI u r a (by omega)) (fM_tr (fM_sI _ r n (by omega)) (fM_fl _ _ _ 0 (by omega))))
          · show (if 153 = 153 ∧ q = r then a else hI u 153 q) = if q = r then a else _
            by_cases e : q = r
            · rw [if_pos ⟨rfl, e⟩, if_pos e]
            · rw [if_neg (fun z => e z.2), if_neg e, (hK.1 q q0 q1).1]
          · show (if 154 = 154 ∧ q = r then n else hI u 154 q) = if q = r then n else _
            by_cases e : q = r
            · rw [if_pos ⟨rfl, e⟩, if_pos e]
            · rw [if_neg (fun z => e z.2), if_neg e, (hK.1 q q0 q1).2]
          · show (if 155 = 155 ∧ 8 * r + 0 ≤ j ∧ j < 8 * r + 8 then 0 else hI u 155 j) = if 8 * r ≤ j ∧ j < 8 * r + 8 then 0 else _
            by_cases e : 8 * r ≤ j ∧ j < 8 * r + 8
            · rw [if_pos ⟨rfl, by omega, e.2⟩, if_pos e]
            · rw [if_neg (by omega), if_neg e, hK.2 j j0 j1]
    · rw [if_pos (by omega)] at h
      exact h u hA (fM_rfl u)
  · rw [if_pos (by omega)] at h
    exact h u hA (fM_rfl u)
