/-! racks: the model -/
theorem w_thingsOn {d : Nat} {Q : aQ} {u : aS} {k : Int} (hS : mS u) (hk : 0 ≤ k ∧ k ≤ 2) {c s : Nat} : ∀ (n : Nat) (i r : Int), i + n = 8 → 0 ≤ i → 0 ≤ r → r ≤ 100 - n → Q (some (vI (r + cn (fun i => decide (hI u 153 k ≠ -1) && decide (i < hI u 154 k) && decide (0 < hI u 155 (8 * k + i))) n i))) u → wp (wpm d) cd_X8_thingsOn Q 4 [vR 139, vI k, vI r, vI i] [] u c s
  | 0, i, r, h1, h2, h3, h4, h => by
    refine run [(4, [])] 40 ?_
    refine z_bq (fun hl => ?_) (fun hl => ?_)
    · omega
    · rw [cn_0, Int.add_zero] at h
      exact h
  | n + 1, i, r, h1, h2, h3, h4, h => by
    rw [cn_s] at h
    refine run [(4, [])] 40 ?_
    refine z_bq (fun hl => ?_) (fun hl => by omega)
    repeat first
      | refine z_gq (by omega) ?_
      | refine z_iq rfl (by omega) (by omega) ?_
      | refine z_dq (mS.sort hS) ?_
    refine z_bq (fun ha => ?_) (fun ha => ?_)
    · repeat first
        | refine z_gq (by omega) ?_
        | refine z_iq rfl (by omega) (by omega) ?_
        | refine z_dq (mS.now hS) ?_
        | refine z_dq (mS.floats hS) ?_
        | refine z_dq (mS.sizes hS) ?_
        | refine z_dq (mS.shut hS) ?_
        | refine z_dq (mS.past hS) ?_
        | refine z_dq (mS.deeds hS) ?_
        | refine z_dq (mS.images hS) ?_
        | refine z_dq (mS.imageShut hS) ?_
        | refine z_dq (mS.kept hS) ?_
        | refine z_dq (mS.owner hS) ?_
        | refine z_dq (mS.old hS) ?_
        | refine z_dq (mS.letters hS) ?_
        | refine z_dq (mS.toldSizes hS) ?_
        | refine z_dq (mS.sort hS) ?_
        | refine z_dq (mS.room hS) ?_
        | refine z_dq (mS.things hS) ?_
      refine w_thingsOn hS hk n (i + 1) (r + 0) (by omega) (by omega) (by omega) (by omega) ?_
      rw [if_neg (by simp [ha]), Int.zero_add] at h
      rw [Int.add_zero]
      exact h
    · repeat first
        | refine z_gq (by omega) ?_
        | refine z_iq rfl (by omega) (by omega) ?_
        | refine z_dq (mS.now hS) ?_
        | refine z_dq (mS.floats hS) ?_
        | refine z_dq (mS.sizes hS) ?_
        | refine z_dq (mS.shut hS) ?_
        | refine z_dq (mS.past hS) ?_
        | refine z_dq (mS.deeds hS) ?_
        | refine z_dq (mS.images hS) ?_
        | refine z_dq (mS.imageShut hS) ?_
        | refine z_dq (mS.kept hS) ?_
        | refine z_dq (mS.owner hS) ?_
        | refine z_dq (mS.old hS) ?_
        | refine z_dq (mS.letters hS) ?_
        | refine z_dq (mS.toldSizes hS) ?_
        | refine z_dq (mS.sort hS) ?_
        | refine z_dq (mS.room hS) ?_
        | refine z_dq (mS.things hS) ?_
      refine z_bq (fun hb => ?_) (fun hb => ?_)
      · repeat first
          | refine z_gq (by omega) ?_
          | refine z_iq rfl (by omega) (by omega) ?_
          | refine z_dq (mS.now hS) ?_
          | refine z_dq (mS.floats hS) ?_
          | refine z_dq (mS.sizes hS) ?_
          | refine z_dq (mS.shut hS) ?_
          | refine z_dq (mS.past hS) ?_
          | refine z_dq (mS.deeds hS) ?_
          | refine z_dq (mS.images hS) ?_
          | refine z_dq (mS.imageShut hS) ?_
          | refine z_dq (mS.kept hS) ?_
          | refine z_dq (mS.owner hS) ?_
          | refine z_dq (mS.old hS) ?_
          | refine z_dq (mS.letters hS) ?_
          | refine z_dq (mS.toldSizes hS) ?_
          | refine z_dq (mS.sort hS) ?_
          | refine z_dq (mS.room hS) ?_
          | refine z_dq (mS.things hS) ?_
        refine z_bq (fun hc => ?_) (fun hc => ?_)
        · repeat first
            | refine z_gq (by omega) ?_
            | refine z_iq rfl (by omega) (by omega) ?_
            | refine z_dq (mS.now hS) ?_
            | refine z_dq (mS.floats hS) ?_
            | refine z_dq (mS.sizes hS) ?_
            | refine z_dq (mS.shut hS) ?_
            | refine z_dq (mS.past hS) ?_
            | refine z_dq (mS.deeds hS) ?_
            | refine z_dq (mS.images hS) ?_
            | refine z_dq (mS.imageShut hS) ?_
            | refine z_dq (mS.kept hS) ?_
            | refine z_dq (mS.owner hS) ?_
            | refine z_dq (mS.old hS) ?_
            | refine z_dq (mS.letters hS) ?_
            | refine z_dq (mS.toldSizes hS) ?_
            | refine z_dq (mS.sort hS) ?_
            | refine z_dq (mS.room hS) ?_
            | refine z_dq (mS.things hS) ?_
          refine w_thingsOn hS hk n (i + 1) (r + 1) (by omega) (by omega) (by omega) (by omega) ?_
          rw [if_pos (by simp [ha, hb, hc]), ← Int.add_assoc] at h
          exact h
        · repeat first
            | refine z_gq (by omega) ?_
            | refine z_iq rfl (by omega) (by omega) ?_
            | refine z_dq (mS.now hS) ?_
            | refine z_dq (mS.floats hS) ?_
            | refine z_dq (mS.sizes hS) ?_
            | refine z_dq (mS.shut hS) ?_
            | refine z_dq (mS.past hS) ?_
            | refine z_dq (mS.deeds hS) ?_
            | refine z_dq (mS.images hS) ?_
            | refine z_dq (mS.imageShut hS) ?_
            | refine z_dq (mS.kept hS) ?_
            | refine z_dq (mS.owner hS) ?_
            | refine z_dq (mS.old hS) ?_
            | refine z_dq (mS.letters hS) ?_
            | refine z_dq (mS.toldSizes hS) ?_
            | refine z_dq (mS.sort hS) ?_
            | refine z_dq (mS.room hS) ?_
            | refine z_dq (mS.things hS) ?_
          refine w_thingsOn hS hk n (i + 1) (r + 0) (by omega) (by omega) (by omega) (by omega) ?_
          rw [if_neg (by simp [hc]), Int.zero_add] at h
          rw [Int.add_zero]
          exact h
      · repeat first
          | refine z_gq (by omega) ?_
          | refine z_iq rfl (by omega) (by omega) ?_
          | refine z_dq (mS.now hS) ?_
          | refine z_dq (mS.floats hS) ?_
          | refine z_dq (mS.sizes hS) ?_
          | refine z_dq (mS.shut hS) ?_
          | refine z_dq (mS.past hS) ?_
          | refine z_dq (mS.deeds hS) ?_
          | refine z_dq (mS.images hS) ?_
          | refine z_dq (mS.imageShut hS) ?_
          | refine z_dq (mS.kept hS) ?_
          | refine z_dq (mS.owner hS) ?_
          | refine z_dq (mS.old hS) ?_
          | refine z_dq (mS.letters hS) ?_
          | refine z_dq (mS.toldSizes hS) ?_
          | refine z_dq (mS.sort hS) ?_
          | refine z_dq (mS.room hS) ?_
          | refine z_dq (mS.things hS) ?_
        refine w_thingsOn hS hk n (i + 1) (r + 0) (by omega) (by omega) (by omega) (by omega) ?_
        rw [if_neg (by simp [hb]), Int.zero_add] at h
        rw [Int.add_zero]
        exact h
theorem c_thingsOn {d : Nat} {k : Int} {u : aS} {Q : aQ} (hS : mS u) (hk : 0 ≤ k ∧ k ≤ 2) (h : Q (some (vI (tOn (hI u 153, hI u 154, hI u 155) k))) u) : wpm (d + 1) M_X8_thingsOn [vR 139, vI k] u Q := by
  refine e_X8_thingsOn rfl (run [(4, [])] 40 ?_)
  refine w_thingsOn hS hk 8 0 0 (by omega) (by omega) (by omega) (by omega) ?_
  rw [Int.zero_add]
  exact h

theorem w_rack {d : Nat} {Q : aQ} {k a b : Int} (hk : 0 ≤ k ∧ k ≤ 2) {c s : Nat} : ∀ (n : Nat) (i : Int) (u : aS), mS u → i + n = 8 → 0 ≤ i → Q (some (vI b)) (fl u 155 (8 * k + i) (8 * k + 8) 0) → wp (wpm d) cd_X8_rack Q 55 [vR 139, vI k, vI a, vI b, vI i] [] u c s
  | 0, i, u, hS, h1, h2, h => by
    refine run [(55, [])] 40 ?_
    refine z_bq (fun hl => ?_) (fun hl => ?_)
    · omega
    · rw [fl_end u 155 0 (by omega)] at h
      exact h
  | n + 1, i, u, hS, h1, h2, h => by
    refine run [(55, [])] 40 ?_
    refine z_bq (fun hl => ?_) (fun hl => by omega)
    repeat first
      | refine z_gq (by omega) ?_
      | refine z_iq rfl (by omega) (by omega) ?_
      | refine z_dq (mS.things hS) ?_
    refine w_rack hk n (i + 1) (sI u 155 (8 * k + i) 0) hS (by omega) (by omega) ?_
    rw [← fl_step u 155 0 (by omega)] at h
    rw [show 8 * k + (i + 1) = 8 * k + i + 1 by omega]
    exact h
theorem tOn_e {K K' : Rk} {k : Int} (h1 : K.1 k = K'.1 k) (h2 : K.2.1 k = K'.2.1 k) (h3 : ∀ i, 0 ≤ i → i < 8 → K.2.2 (8 * k + i) = K'.2.2 (8 * k + i)) : tOn K k = tOn K' k := by
  unfold tOn
  refine cn_e 8 0 (fun j a b => ?_)
  simp only [h1, h2, h3 j a (by omega)]
/-- rack, of the model -/
theorem c_rack {d : Nat} {r a n : Int} {u : aS} {Q : aQ} {A : Al} (hA : mA u A) (h : ∀ u', mA u' (A.1, A.2.1, (oRack A.2.2.1 r a n).2, A.2.2.2) → fM u u' → Q (some (vI (oRack A.2.2.1 r a n).1)) u') : wpm (d + 3) M_X8_rack [vR 139, vI r, vI a, vI n] u Q := by
  have hS := hA.1
  have hK := hA.2.2.2.1
  unfold oRack at h
  refine e_X8_rack rfl (run [(55, [])] 40 ?_)
  refine c_isRack (fun r0 r1 => ?_) (fun r0 => ?_)
  · rw [if_neg (by omega)] at h
    refine c_in (fun a0 a1 => ?_) (fun a0 => ?_)
    · refine z_bq (fun hn => ?_) (fun hn => ?_)
      · rw [if_pos (by omega)] at h
        exact h u hA (fM_rfl u)
      · rw [if_neg (by omega)] at h
        refine z_bq (fun hm => ?_) (fun hm => ?_)
        · rw [if_pos hm] at h
          exact h u hA (fM_rfl u)
        · rw [if_neg hm] at h
          repeat first
            | refine z_gq (by omega) ?_
            | refine z_iq rfl (by omega) (by omega) ?_
            | refine z_dq (mS.now hS) ?_
            | refine z_dq (mS.floats hS) ?_
            | refine z_dq (mS.sizes hS) ?_
            | refine z_dq (mS.shut hS) ?_
            | refine z_dq (mS.past hS) ?_
            | refine z_dq (mS.deeds hS) ?_
            | refine z_dq (mS.images hS) ?_
            | refine z_dq (mS.imageShut hS) ?_
            | refine z_dq (mS.kept hS) ?_
            | refine z_dq (mS.owner hS) ?_
            | refine z_dq (mS.old hS) ?_
            | refine z_dq (mS.letters hS) ?_
            | refine z_dq (mS.toldSizes hS) ?_
            | refine z_dq (mS.sort hS) ?_
            | refine z_dq (mS.room hS) ?_
            | refine z_dq (mS.things hS) ?_
          refine w_rack ⟨r0, r1⟩ 8 0 _ hS (by omega) (by omega) ?_
          refine h _ ⟨hS, hA.2.1, hA.2.2.1, ⟨fun q q0 q1 => ⟨?_, ?_⟩, fun j j0 j1 => ?_⟩, hA.2.2.2.2⟩ (fM_tr (fM_sI u r a (by omega)) (fM_tr (fM_sI _ r n (by omega)) (fM_fl _ _ _ 0 (by omega))))
          · show (if 153 = 153 ∧ q = r then a else hI u 153 q) = if q = r then a else _
            by_cases e : q = r
            · rw [if_pos ⟨rfl, e⟩, if_pos e]
            · rw [if_neg (fun z => e z.2), if_neg e, (hK.1 q q0 q1).1]
          · show (if 154 = 154 ∧ q = r then n else hI u 154 q) = if q = r then n else _
            by_cases e : q = r
            · rw [if_pos ⟨rfl, e⟩, if_pos e]
            · rw [if_neg (fun z => e z.2), if_neg e, (hK.1 q q0 q1).2]
          · show (if 155 = 155 ∧ 8 * r + 0 ≤ j ∧ j < 8 * r + 8 then 0 else hI u 155 j) = if 8 * r ≤ j ∧ j < 8 * r + 8 then 0 else _
            by_cases e : 8 * r ≤ j ∧ j < 8 * r + 8
            · rw [if_pos ⟨rfl, by omega, e.2⟩, if_pos e]
            · rw [if_neg (by omega), if_neg e, hK.2 j j0 j1]
    · rw [if_pos (by omega)] at h
      exact h u hA (fM_rfl u)
  · rw [if_pos (by omega)] at h
    exact h u hA (fM_rfl u)
theorem c_isFor {d : Nat} {r t : Int} {u : aS} {Q : aQ} (hS : mS u) (hr : 0 ≤ r ∧ r ≤ 2) (h1 : (hI u 153 r = 0 ∨ hI u 153 r = (if 100 < t then 2 else 1)) → Q (some (vI 1)) u) (h0 : ¬ (hI u 153 r = 0 ∨ hI u 153 r = (if 100 < t then 2 else 1)) → Q (some (vI 0)) u) : wpm (d + 1) M_X8_isFor [vR 139, vI r, vI t] u Q := by
  refine e_X8_isFor rfl (run [] 40 ?_)
  repeat first
    | refine z_gq (by omega) ?_
    | refine z_iq rfl (by omega) (by omega) ?_
    | refine z_dq (mS.now hS) ?_
    | refine z_dq (mS.floats hS) ?_
    | refine z_dq (mS.sizes hS) ?_
    | refine z_dq (mS.shut hS) ?_
    | refine z_dq (mS.past hS) ?_
    | refine z_dq (mS.deeds hS) ?_
    | refine z_dq (mS.images hS) ?_
    | refine z_dq (mS.imageShut hS) ?_
    | refine z_dq (mS.kept hS) ?_
    | refine z_dq (mS.owner hS) ?_
    | refine z_dq (mS.old hS) ?_
    | refine z_dq (mS.letters hS) ?_
    | refine z_dq (mS.toldSizes hS) ?_
    | refine z_dq (mS.sort hS) ?_
    | refine z_dq (mS.room hS) ?_
    | refine z_dq (mS.things hS) ?_
  refine z_bq (fun ha => ?_) (fun ha => ?_)
  · exact h1 (Or.inl ha)
  · repeat first
      | refine z_gq (by omega) ?_
      | refine z_iq rfl (by omega) (by omega) ?_
      | refine z_dq (mS.now hS) ?_
      | refine z_dq (mS.floats hS) ?_
      | refine z_dq (mS.sizes hS) ?_
      | refine z_dq (mS.shut hS) ?_
      | refine z_dq (mS.past hS) ?_
      | refine z_dq (mS.deeds hS) ?_
      | refine z_dq (mS.images hS) ?_
      | refine z_dq (mS.imageShut hS) ?_
      | refine z_dq (mS.kept hS) ?_
      | refine z_dq (mS.owner hS) ?_
      | refine z_dq (mS.old hS) ?_
      | refine z_dq (mS.letters hS) ?_
      | refine z_dq (mS.toldSizes hS) ?_
      | refine z_dq (mS.sort hS) ?_
      | refine z_dq (mS.room hS) ?_
      | refine z_dq (mS.things hS) ?_
    refine z_bq (fun hb => ?_) (fun hb => ?_)
    · rw [if_pos hb] at h1 h0
      refine z_bq (fun hc => ?_) (fun hc => ?_)
      · exact h1 (Or.inr hc)
      · exact h0 (fun z => z.elim ha hc)
    · rw [if_neg hb] at h1 h0
      refine z_bq (fun hc => ?_) (fun hc => ?_)
      · exact h1 (Or.inr hc)
      · exact h0 (fun z => z.elim ha hc)
theorem c_hang {d : Nat} {r i a v : Int} {u : aS} {Q : aQ} {A : Al} (hA : mA u A) (hV : vRk A.2.2.1) (h : ∀ u', mA u' (A.1, A.2.1, (oHang A.2.2.1 r i a v).2, A.2.2.2) → fM u u' → Q (some (vI (oHang A.2.2.1 r i a v).1)) u') : wpm (d + 3) M_X8_hang [vR 139, vI r, vI i, vI a, vI v] u Q := by
  have hS := hA.1
  have hK := hA.2.2.2.1
  unfold oHang at h
  refine e_X8_hang rfl (run [(93, [])] 60 ?_)
  refine c_isRack (fun r0 r1 => ?_) (fun r0 => ?_)
  · rw [if_neg (by omega)] at h
    have eS := (hK.1 r r0 r1).1
    have eN := (hK.1 r r0 r1).2
    have vS := hV.1 r r0 r1
    rw [← eS, ← eN] at vS h
    refine c_in (fun a0 a1 => ?_) (fun a0 => ?_)
    · refine c_in (fun v0 v1 => ?_) (fun v0 => ?_)
      · rw [if_neg (by omega)] at h
        repeat first
          | refine z_gq (by omega) ?_
          | refine z_iq rfl (by omega) (by omega) ?_
          | refine z_dq (mS.now hS) ?_
          | refine z_dq (mS.floats hS) ?_
          | refine z_dq (mS.sizes hS) ?_
          | refine z_dq (mS.shut hS) ?_
          | refine z_dq (mS.past hS) ?_
          | refine z_dq (mS.deeds hS) ?_
          | refine z_dq (mS.images hS) ?_
          | refine z_dq (mS.imageShut hS) ?_
          | refine z_dq (mS.kept hS) ?_
          | refine z_dq (mS.owner hS) ?_
          | refine z_dq (mS.old hS) ?_
          | refine z_dq (mS.letters hS) ?_
          | refine z_dq (mS.toldSizes hS) ?_
          | refine z_dq (mS.sort hS) ?_
          | refine z_dq (mS.room hS) ?_
          | refine z_dq (mS.things hS) ?_
        refine z_bq (fun hs => ?_) (fun hs => ?_)
        · rw [if_pos hs] at h
          exact h u hA (fM_rfl u)
        · rw [if_neg hs] at h
          repeat first
            | refine z_gq (by omega) ?_
            | refine z_iq rfl (by omega) (by omega) ?_
            | refine z_dq (mS.now hS) ?_
            | refine z_dq (mS.floats hS) ?_
            | refine z_dq (mS.sizes hS) ?_
            | refine z_dq (mS.shut hS) ?_
            | refine z_dq (mS.past hS) ?_
            | refine z_dq (mS.deeds hS) ?_
            | refine z_dq (mS.images hS) ?_
            | refine z_dq (mS.imageShut hS) ?_
            | refine z_dq (mS.kept hS) ?_
            | refine z_dq (mS.owner hS) ?_
            | refine z_dq (mS.old hS) ?_
            | refine z_dq (mS.letters hS) ?_
            | refine z_dq (mS.toldSizes hS) ?_
            | refine z_dq (mS.sort hS) ?_
            | refine z_dq (mS.room hS) ?_
            | refine z_dq (mS.things hS) ?_
          refine c_in (fun i0 i1 => ?_) (fun i0 => ?_)
          · rw [if_neg (by omega)] at h
            have key : ∀ t, (if 100 < t then 2 else 1) = a → t = thg a v → wp (wpm (d + 2)) cd_X8_hang Q 93 [vR 139, vI r, vI i, vI a, vI v, vI t] [] u 0 0 := by
              intro t ht1 ht2
              refine run [] 60 ?_
              refine c_isFor hS ⟨r0, r1⟩ (fun hf => ?_) (fun hf => ?_)
              · rw [ht1] at hf
                rw [if_neg (fun z => z hf)] at h
                repeat first
                  | refine z_gq (by omega) ?_
                  | refine z_iq rfl (by omega) (by omega) ?_
                  | refine z_dq (mS.now hS) ?_
                  | refine z_dq (mS.floats hS) ?_
                  | refine z_dq (mS.sizes hS) ?_
                  | refine z_dq (mS.shut hS) ?_
                  | refine z_dq (mS.past hS) ?_
                  | refine z_dq (mS.deeds hS) ?_
                  | refine z_dq (mS.images hS) ?_
                  | refine z_dq (mS.imageShut hS) ?_
                  | refine z_dq (mS.kept hS) ?_
                  | refine z_dq (mS.owner hS) ?_
                  | refine z_dq (mS.old hS) ?_
                  | refine z_dq (mS.letters hS) ?_
                  | refine z_dq (mS.toldSizes hS) ?_
                  | refine z_dq (mS.sort hS) ?_
                  | refine z_dq (mS.room hS) ?_
                  | refine z_dq (mS.things hS) ?_
                refine h _ ⟨hS, hA.2.1, hA.2.2.1, ⟨hK.1, fun j j0 j1 => ?_⟩, hA.2.2.2.2⟩ (fM_sI _ _ _ (by omega))
                show (if 155 = 155 ∧ j = 8 * r + i then t else hI u 155 j) = if j = 8 * r + i then thg a v else _
                by_cases e : j = 8 * r + i
                · rw [if_pos ⟨rfl, e⟩, if_pos e, ht2]
                · rw [if_neg (fun z => e z.2), if_neg e, hK.2 j j0 j1]
              · rw [ht1] at hf
                rw [if_pos hf] at h
                exact h u hA (fM_rfl u)
            refine z_bq (fun h1 => ?_) (fun h1 => ?_)
            · repeat first
                | refine z_gq (by omega) ?_
                | refine z_iq rfl (by omega) (by omega) ?_
                | refine z_dq (mS.now hS) ?_
                | refine z_dq (mS.floats hS) ?_
                | refine z_dq (mS.sizes hS) ?_
                | refine z_dq (mS.shut hS) ?_
                | refine z_dq (mS.past hS) ?_
                | refine z_dq (mS.deeds hS) ?_
                | refine z_dq (mS.images hS) ?_
                | refine z_dq (mS.imageShut hS) ?_
                | refine z_dq (mS.kept hS) ?_
                | refine z_dq (mS.owner hS) ?_
                | refine z_dq (mS.old hS) ?_
                | refine z_dq (mS.letters hS) ?_
                | refine z_dq (mS.toldSizes hS) ?_
                | refine z_dq (mS.sort hS) ?_
                | refine z_dq (mS.room hS) ?_
                | refine z_dq (mS.things hS) ?_
              refine key (1 + v) ?_ ?_
              · rw [if_neg (by omega), h1]
              · rw [thg, if_pos h1]
            · repeat first
                | refine z_gq (by omega) ?_
                | refine z_iq rfl (by omega) (by omega) ?_
                | refine z_dq (mS.now hS) ?_
                | refine z_dq (mS.floats hS) ?_
                | refine z_dq (mS.sizes hS) ?_
                | refine z_dq (mS.shut hS) ?_
                | refine z_dq (mS.past hS) ?_
                | refine z_dq (mS.deeds hS) ?_
                | refine z_dq (mS.images hS) ?_
                | refine z_dq (mS.imageShut hS) ?_
                | refine z_dq (mS.kept hS) ?_
                | refine z_dq (mS.owner hS) ?_
                | refine z_dq (mS.old hS) ?_
                | refine z_dq (mS.letters hS) ?_
                | refine z_dq (mS.toldSizes hS) ?_
                | refine z_dq (mS.sort hS) ?_
                | refine z_dq (mS.room hS) ?_
                | refine z_dq (mS.things hS) ?_
              refine key (101 + v) ?_ ?_
              · rw [if_pos (by omega)]
                omega
              · rw [thg, if_neg h1]
          · rw [if_pos (by omega)] at h
            exact h u hA (fM_rfl u)
      · rw [if_pos (by omega)] at h
        exact h u hA (fM_rfl u)
    · rw [if_pos (by omega)] at h
      exact h u hA (fM_rfl u)
  · rw [if_pos (by omega)] at h
    exact h u hA (fM_rfl u)
theorem c_take {d : Nat} {r i : Int} {u : aS} {Q : aQ} {A : Al} (hA : mA u A) (hV : vRk A.2.2.1) (h : ∀ u', mA u' (A.1, A.2.1, (oTake A.2.2.1 r i).2, A.2.2.2) → fM u u' → Q (some (vI (oTake A.2.2.1 r i).1)) u') : wpm (d + 3) M_X8_take [vR 139, vI r, vI i] u Q := by
  have hS := hA.1
  have hK := hA.2.2.2.1
  unfold oTake at h
  refine e_X8_take rfl (run [] 60 ?_)
  refine c_isRack (fun r0 r1 => ?_) (fun r0 => ?_)
  · rw [if_neg (by omega)] at h
    have eS := (hK.1 r r0 r1).1
    have eN := (hK.1 r r0 r1).2
    have vS := hV.1 r r0 r1
    rw [← eS, ← eN] at vS h
    repeat first
      | refine z_gq (by omega) ?_
      | refine z_iq rfl (by omega) (by omega) ?_
      | refine z_dq (mS.now hS) ?_
      | refine z_dq (mS.floats hS) ?_
      | refine z_dq (mS.sizes hS) ?_
      | refine z_dq (mS.shut hS) ?_
      | refine z_dq (mS.past hS) ?_
      | refine z_dq (mS.deeds hS) ?_
      | refine z_dq (mS.images hS) ?_
      | refine z_dq (mS.imageShut hS) ?_
      | refine z_dq (mS.kept hS) ?_
      | refine z_dq (mS.owner hS) ?_
      | refine z_dq (mS.old hS) ?_
      | refine z_dq (mS.letters hS) ?_
      | refine z_dq (mS.toldSizes hS) ?_
      | refine z_dq (mS.sort hS) ?_
      | refine z_dq (mS.room hS) ?_
      | refine z_dq (mS.things hS) ?_
    refine z_bq (fun hs => ?_) (fun hs => ?_)
    · rw [if_pos hs] at h
      exact h u hA (fM_rfl u)
    · rw [if_neg hs] at h
      repeat first
        | refine z_gq (by omega) ?_
        | refine z_iq rfl (by omega) (by omega) ?_
        | refine z_dq (mS.now hS) ?_
        | refine z_dq (mS.floats hS) ?_
        | refine z_dq (mS.sizes hS) ?_
        | refine z_dq (mS.shut hS) ?_
        | refine z_dq (mS.past hS) ?_
        | refine z_dq (mS.deeds hS) ?_
        | refine z_dq (mS.images hS) ?_
        | refine z_dq (mS.imageShut hS) ?_
        | refine z_dq (mS.kept hS) ?_
        | refine z_dq (mS.owner hS) ?_
        | refine z_dq (mS.old hS) ?_
        | refine z_dq (mS.letters hS) ?_
        | refine z_dq (mS.toldSizes hS) ?_
        | refine z_dq (mS.sort hS) ?_
        | refine z_dq (mS.room hS) ?_
        | refine z_dq (mS.things hS) ?_
      refine c_in (fun i0 i1 => ?_) (fun i0 => ?_)
      · rw [if_neg (by omega)] at h
        have eT := hK.2 (8 * r + i) (by omega) (by omega)
        have vT := hV.2 (8 * r + i)
        rw [← eT] at h vT
        repeat first
          | refine z_gq (by omega) ?_
          | refine z_iq rfl (by omega) (by omega) ?_
          | refine z_dq (mS.now hS) ?_
          | refine z_dq (mS.floats hS) ?_
          | refine z_dq (mS.sizes hS) ?_
          | refine z_dq (mS.shut hS) ?_
          | refine z_dq (mS.past hS) ?_
          | refine z_dq (mS.deeds hS) ?_
          | refine z_dq (mS.images hS) ?_
          | refine z_dq (mS.imageShut hS) ?_
          | refine z_dq (mS.kept hS) ?_
          | refine z_dq (mS.owner hS) ?_
          | refine z_dq (mS.old hS) ?_
          | refine z_dq (mS.letters hS) ?_
          | refine z_dq (mS.toldSizes hS) ?_
          | refine z_dq (mS.sort hS) ?_
          | refine z_dq (mS.room hS) ?_
          | refine z_dq (mS.things hS) ?_
        refine z_bq (fun ht => ?_) (fun ht => ?_)
        · rw [if_pos ht] at h
          refine h _ ⟨hS, hA.2.1, hA.2.2.1, ⟨hK.1, fun j j0 j1 => ?_⟩, hA.2.2.2.2⟩ (fM_sI _ _ _ (by omega))
          show (if 155 = 155 ∧ j = 8 * r + i then 0 else hI u 155 j) = A.2.2.1.2.2 j
          by_cases e : j = 8 * r + i
          · rw [if_pos ⟨rfl, e⟩, e]
            omega
          · rw [if_neg (fun z => e z.2), hK.2 j j0 j1]
        · rw [if_neg ht] at h
          repeat first
            | refine z_gq (by omega) ?_
            | refine z_iq rfl (by omega) (by omega) ?_
            | refine z_dq (mS.now hS) ?_
            | refine z_dq (mS.floats hS) ?_
            | refine z_dq (mS.sizes hS) ?_
            | refine z_dq (mS.shut hS) ?_
            | refine z_dq (mS.past hS) ?_
            | refine z_dq (mS.deeds hS) ?_
            | refine z_dq (mS.images hS) ?_
            | refine z_dq (mS.imageShut hS) ?_
            | refine z_dq (mS.kept hS) ?_
            | refine z_dq (mS.owner hS) ?_
            | refine z_dq (mS.old hS) ?_
            | refine z_dq (mS.letters hS) ?_
            | refine z_dq (mS.toldSizes hS) ?_
            | refine z_dq (mS.sort hS) ?_
            | refine z_dq (mS.room hS) ?_
            | refine z_dq (mS.things hS) ?_
          refine h _ ⟨hS, hA.2.1, hA.2.2.1, ⟨hK.1, fun j j0 j1 => ?_⟩, hA.2.2.2.2⟩ (fM_sI _ _ _ (by omega))
          show (if 155 = 155 ∧ j = 8 * r + i then 0 else hI u 155 j) = if j = 8 * r + i then 0 else _
          by_cases e : j = 8 * r + i
          · rw [if_pos ⟨rfl, e⟩, if_pos e]
          · rw [if_neg (fun z => e z.2), if_neg e, hK.2 j j0 j1]
      · rw [if_pos (by omega)] at h
        exact h u hA (fM_rfl u)
  · rw [if_pos (by omega)] at h
    exact h u hA (fM_rfl u)
theorem c_drop {d : Nat} {r : Int} {u : aS} {Q : aQ} {A : Al} (hA : mA u A) (h : ∀ u', mA u' (A.1, A.2.1, (oDrop A.2.2.1 r).2, A.2.2.2) → fM u u' → Q (some (vI (oDrop A.2.2.1 r).1)) u') : wpm (d + 3) M_X8_drop [vR 139, vI r] u Q := by
  have hS := hA.1
  have hK := hA.2.2.2.1
  unfold oDrop at h
  refine e_X8_drop rfl (run [] 60 ?_)
  refine c_isRack (fun r0 r1 => ?_) (fun r0 => ?_)
  · rw [if_neg (by omega)] at h
    have eS := (hK.1 r r0 r1).1
    rw [← eS] at h
    repeat first
      | refine z_gq (by omega) ?_
      | refine z_iq rfl (by omega) (by omega) ?_
      | refine z_dq (mS.now hS) ?_
      | refine z_dq (mS.floats hS) ?_
      | refine z_dq (mS.sizes hS) ?_
      | refine z_dq (mS.shut hS) ?_
      | refine z_dq (mS.past hS) ?_
      | refine z_dq (mS.deeds hS) ?_
      | refine z_dq (mS.images hS) ?_
      | refine z_dq (mS.imageShut hS) ?_
      | refine z_dq (mS.kept hS) ?_
      | refine z_dq (mS.owner hS) ?_
      | refine z_dq (mS.old hS) ?_
      | refine z_dq (mS.letters hS) ?_
      | refine z_dq (mS.toldSizes hS) ?_
      | refine z_dq (mS.sort hS) ?_
      | refine z_dq (mS.room hS) ?_
      | refine z_dq (mS.things hS) ?_
    refine z_bq (fun hs => ?_) (fun hs => ?_)
    · rw [if_pos hs] at h
      exact h u hA (fM_rfl u)
    · rw [if_neg hs] at h
      refine c_thingsOn hS ⟨r0, r1⟩ ?_
      repeat first
        | refine z_gq (by omega) ?_
        | refine z_iq rfl (by omega) (by omega) ?_
        | refine z_dq (mS.now hS) ?_
        | refine z_dq (mS.floats hS) ?_
        | refine z_dq (mS.sizes hS) ?_
        | refine z_dq (mS.shut hS) ?_
        | refine z_dq (mS.past hS) ?_
        | refine z_dq (mS.deeds hS) ?_
        | refine z_dq (mS.images hS) ?_
        | refine z_dq (mS.imageShut hS) ?_
        | refine z_dq (mS.kept hS) ?_
        | refine z_dq (mS.owner hS) ?_
        | refine z_dq (mS.old hS) ?_
        | refine z_dq (mS.letters hS) ?_
        | refine z_dq (mS.toldSizes hS) ?_
        | refine z_dq (mS.sort hS) ?_
        | refine z_dq (mS.room hS) ?_
        | refine z_dq (mS.things hS) ?_
      rw [tOn_e (K' := A.2.2.1) (hK.1 r r0 r1).1 (hK.1 r r0 r1).2 (fun i i0 i1 => hK.2 _ (by omega) (by omega))]
      refine h _ ⟨hS, hA.2.1, hA.2.2.1, ⟨fun q q0 q1 => ⟨?_, (hK.1 q q0 q1).2⟩, hK.2⟩, hA.2.2.2.2⟩ (fM_sI _ _ _ (by omega))
      show (if 153 = 153 ∧ q = r then -1 else hI u 153 q) = if q = r then -1 else _
      by_cases e : q = r
      · rw [if_pos ⟨rfl, e⟩, if_pos e]
      · rw [if_neg (fun z => e z.2), if_neg e, (hK.1 q q0 q1).1]
  · rw [if_pos (by omega)] at h
    exact h u hA (fM_rfl u)
theorem w_like {d : Nat} {Q : aQ} {r o : Int} (hr : 0 ≤ r ∧ r ≤ 2) (ho : 0 ≤ o ∧ o ≤ 2) {c s : Nat} : ∀ (n : Nat) (i : Int) (u : aS), mS u → i + n = 8 → 0 ≤ i → wp (wpm d) cd_X8_likeness Q 91 [vR 139, vI r, vI o, vI 8] [] (cp u 155 (8 * r + i) (8 * r + 8) 155 (8 * o - 8 * r)) c s → wp (wpm d) cd_X8_likeness Q 57 [vR 139, vI r, vI o, vI i] [] u c s
  | 0, i, u, hS, h1, h2, h => by
    refine run [(57, []), (91, [])] 40 ?_
    refine z_bq (fun hl => ?_) (fun hl => ?_)
    · omega
    · have e : i = 8 := by omega
      subst e
      rw [cp_end u _ _ _ (by omega)] at h
      exact h
  | n + 1, i, u, hS, h1, h2, h => by
    refine run [(57, []), (91, [])] 40 ?_
    refine z_bq (fun hl => ?_) (fun hl => by omega)
    repeat first
      | refine z_gq (by omega) ?_
      | refine z_iq rfl (by omega) (by omega) ?_
      | refine z_dq (mS.things hS) ?_
    refine w_like hr ho n (i + 1) _ hS (by omega) (by omega) ?_
    rw [← cp_stp u _ _ _ (by omega) (by omega)] at h
    rw [show 8 * r + (i + 1) = 8 * r + i + 1 by omega, show 8 * o + i = 8 * r + i + (8 * o - 8 * r) by omega]
    exact h
theorem c_like {d : Nat} {r o : Int} {u : aS} {Q : aQ} {A : Al} (hA : mA u A) (h : ∀ u', mA u' (A.1, A.2.1, (oLike A.2.2.1 r o).2, A.2.2.2) → fM u u' → Q (some (vI (oLike A.2.2.1 r o).1)) u') : wpm (d + 3) M_X8_likeness [vR 139, vI r, vI o] u Q := by
  have hS := hA.1
  have hK := hA.2.2.2.1
  unfold oLike at h
  refine e_X8_likeness rfl (run [(57, [])] 60 ?_)
  refine c_isRack (fun r0 r1 => ?_) (fun r0 => ?_)
  · refine c_isRack (fun o0 o1 => ?_) (fun o0 => ?_)
    · rw [if_neg (by omega)] at h
      have eS := (hK.1 o o0 o1).1
      have eN := (hK.1 o o0 o1).2
      rw [← eS, ← eN] at h
      repeat first
        | refine z_gq (by omega) ?_
        | refine z_iq rfl (by omega) (by omega) ?_
        | refine z_dq (mS.now hS) ?_
        | refine z_dq (mS.floats hS) ?_
        | refine z_dq (mS.sizes hS) ?_
        | refine z_dq (mS.shut hS) ?_
        | refine z_dq (mS.past hS) ?_
        | refine z_dq (mS.deeds hS) ?_
        | refine z_dq (mS.images hS) ?_
        | refine z_dq (mS.imageShut hS) ?_
        | refine z_dq (mS.kept hS) ?_
        | refine z_dq (mS.owner hS) ?_
        | refine z_dq (mS.old hS) ?_
        | refine z_dq (mS.letters hS) ?_
        | refine z_dq (mS.toldSizes hS) ?_
        | refine z_dq (mS.sort hS) ?_
        | refine z_dq (mS.room hS) ?_
        | refine z_dq (mS.things hS) ?_
      refine z_bq (fun hs => ?_) (fun hs => ?_)
      · rw [if_pos hs] at h
        exact h u hA (fM_rfl u)
      · rw [if_neg hs] at h
        repeat first
          | refine z_gq (by omega) ?_
          | refine z_iq rfl (by omega) (by omega) ?_
          | refine z_dq (mS.now hS) ?_
          | refine z_dq (mS.floats hS) ?_
          | refine z_dq (mS.sizes hS) ?_
          | refine z_dq (mS.shut hS) ?_
          | refine z_dq (mS.past hS) ?_
          | refine z_dq (mS.deeds hS) ?_
          | refine z_dq (mS.images hS) ?_
          | refine z_dq (mS.imageShut hS) ?_
          | refine z_dq (mS.kept hS) ?_
          | refine z_dq (mS.owner hS) ?_
          | refine z_dq (mS.old hS) ?_
          | refine z_dq (mS.letters hS) ?_
          | refine z_dq (mS.toldSizes hS) ?_
          | refine z_dq (mS.sort hS) ?_
          | refine z_dq (mS.room hS) ?_
          | refine z_dq (mS.things hS) ?_
        refine w_like ⟨r0, r1⟩ ⟨o0, o1⟩ 8 0 _ hS (by omega) (by omega) ?_
        refine run [] 40 ?_
        refine c_thingsOn hS ⟨r0, r1⟩ ?_
        have g : mRk (cp (sI (sI u 153 r (hI u 153 o)) 154 r (hI u 154 o)) 155 (8 * r + 0) (8 * r + 8) 155 (8 * o - 8 * r)) (up A.2.2.1.1 r (hI u 153 o), up A.2.2.1.2.1 r (hI u 154 o), up8 A.2.2.1.2.2 r (fun i => A.2.2.1.2.2 (8 * o + i))) := by
          refine ⟨fun q q0 q1 => ⟨?_, ?_⟩, fun j j0 j1 => ?_⟩
          · show (if 153 = 153 ∧ q = r then hI u 153 o else hI u 153 q) = if q = r then hI u 153 o else _
            by_cases e : q = r
            · rw [if_pos ⟨rfl, e⟩, if_pos e]
            · rw [if_neg (fun z => e z.2), if_neg e, (hK.1 q q0 q1).1]
          · show (if 154 = 154 ∧ q = r then hI u 154 o else hI u 154 q) = if q = r then hI u 154 o else _
            by_cases e : q = r
            · rw [if_pos ⟨rfl, e⟩, if_pos e]
            · rw [if_neg (fun z => e z.2), if_neg e, (hK.1 q q0 q1).2]
          · show (if 155 = 155 ∧ 8 * r + 0 ≤ j ∧ j < 8 * r + 8 then hI u 155 (j + (8 * o - 8 * r)) else hI u 155 j) = if 8 * r ≤ j ∧ j < 8 * r + 8 then A.2.2.1.2.2 (8 * o + (j - 8 * r)) else A.2.2.1.2.2 j
            by_cases e : 8 * r ≤ j ∧ j < 8 * r + 8
            · rw [if_pos ⟨rfl, by omega, by omega⟩, if_pos e, hK.2 _ (by omega) (by omega), show j + (8 * o - 8 * r) = 8 * o + (j - 8 * r) by omega]
            · rw [if_neg (by omega), if_neg e, hK.2 j j0 j1]
        rw [tOn_e (K' := (up A.2.2.1.1 r (hI u 153 o), up A.2.2.1.2.1 r (hI u 154 o), up8 A.2.2.1.2.2 r (fun i => A.2.2.1.2.2 (8 * o + i)))) (g.1 r r0 r1).1 (g.1 r r0 r1).2 (fun i i0 i1 => g.2 _ (by omega) (by omega))]
        exact h _ ⟨hS, hA.2.1, hA.2.2.1, g, hA.2.2.2.2⟩ (fM_tr (fM_sI u _ _ (by omega)) (fM_tr (fM_sI _ _ _ (by omega)) (fM_cp _ _ _ _ _ (by omega))))
    · rw [if_pos (by omega)] at h
      exact h u hA (fM_rfl u)
  · rw [if_pos (by omega)] at h
    exact h u hA (fM_rfl u)
theorem w_pass {d : Nat} {Q : aQ} {r o : Int} {A : Al} (hr : 0 ≤ r ∧ r ≤ 2) (ho : 0 ≤ o ∧ o ≤ 2) {c s : Nat} {x : aV} : ∀ (n : Nat) (i h : Int) (T : Int → Int) (u : aS), vRk (A.2.2.1.1, A.2.2.1.2.1, T) → mA u (A.1, A.2.1, (A.2.2.1.1, A.2.2.1.2.1, T), A.2.2.2) → i + n = A.2.2.1.2.1 r → 0 ≤ i → 0 ≤ h → h ≤ i → (∀ u', mA u' (A.1, A.2.1, (A.2.2.1.1, A.2.2.1.2.1, (passL A.2.2.1.1 A.2.2.1.2.1 r o n i h T).2), A.2.2.2) → fM u u' → Q (some (vI (passL A.2.2.1.1 A.2.2.1.2.1 r o n i h T).1)) u') → wp (wpm (d + 1)) cd_X8_pass Q 46 [vR 139, vI r, vI o, vI h, vI i, x] [] u c s
  | 0, i, h, T, u, hV, hA, h1, h2, h3, h4, k => by
    have hS := hA.1
    have hK := hA.2.2.2.1
    have vR := (hV.1 r hr.1 hr.2).2
    have eN : hI u 154 r = A.2.2.1.2.1 r := (hK.1 r hr.1 hr.2).2
    refine run [(46, [])] 60 ?_
    repeat first
      | refine z_gq (by omega) ?_
      | refine z_iq rfl (by omega) (by omega) ?_
      | refine z_dq (mS.now hS) ?_
      | refine z_dq (mS.floats hS) ?_
      | refine z_dq (mS.sizes hS) ?_
      | refine z_dq (mS.shut hS) ?_
      | refine z_dq (mS.past hS) ?_
      | refine z_dq (mS.deeds hS) ?_
      | refine z_dq (mS.images hS) ?_
      | refine z_dq (mS.imageShut hS) ?_
      | refine z_dq (mS.kept hS) ?_
      | refine z_dq (mS.owner hS) ?_
      | refine z_dq (mS.old hS) ?_
      | refine z_dq (mS.letters hS) ?_
      | refine z_dq (mS.toldSizes hS) ?_
      | refine z_dq (mS.sort hS) ?_
      | refine z_dq (mS.room hS) ?_
      | refine z_dq (mS.things hS) ?_
    refine z_bq (fun hl => ?_) (fun hl => ?_)
    · omega
    · exact k u hA (fM_rfl u)
  | n + 1, i, h, T, u, hV, hA, h1, h2, h3, h4, k => by
    have hS := hA.1
    have hK := hA.2.2.2.1
    have vR : 0 ≤ A.2.2.1.2.1 r ∧ A.2.2.1.2.1 r ≤ 8 := (hV.1 r hr.1 hr.2).2
    have eN : hI u 154 r = A.2.2.1.2.1 r := (hK.1 r hr.1 hr.2).2
    have eM : hI u 154 o = A.2.2.1.2.1 o := (hK.1 o ho.1 ho.2).2
    have eS : hI u 153 o = A.2.2.1.1 o := (hK.1 o ho.1 ho.2).1
    have vT : 0 ≤ T (8 * r + i) ∧ T (8 * r + i) ≤ 200 := hV.2 (8 * r + i)
    have eT : hI u 155 (8 * r + i) = T (8 * r + i) := hK.2 (8 * r + i) (by omega) (by omega)
    rw [passL] at k
    refine run [(46, [])] 60 ?_
    repeat first
      | refine z_gq (by omega) ?_
      | refine z_iq rfl (by omega) (by omega) ?_
      | refine z_dq (mS.now hS) ?_
      | refine z_dq (mS.floats hS) ?_
      | refine z_dq (mS.sizes hS) ?_
      | refine z_dq (mS.shut hS) ?_
      | refine z_dq (mS.past hS) ?_
      | refine z_dq (mS.deeds hS) ?_
      | refine z_dq (mS.images hS) ?_
      | refine z_dq (mS.imageShut hS) ?_
      | refine z_dq (mS.kept hS) ?_
      | refine z_dq (mS.owner hS) ?_
      | refine z_dq (mS.old hS) ?_
      | refine z_dq (mS.letters hS) ?_
      | refine z_dq (mS.toldSizes hS) ?_
      | refine z_dq (mS.sort hS) ?_
      | refine z_dq (mS.room hS) ?_
      | refine z_dq (mS.things hS) ?_
    refine z_bq (fun hl => ?_) (fun hl => by omega)
    repeat first
      | refine z_gq (by omega) ?_
      | refine z_iq rfl (by omega) (by omega) ?_
      | refine z_dq (mS.now hS) ?_
      | refine z_dq (mS.floats hS) ?_
      | refine z_dq (mS.sizes hS) ?_
      | refine z_dq (mS.shut hS) ?_
      | refine z_dq (mS.past hS) ?_
      | refine z_dq (mS.deeds hS) ?_
      | refine z_dq (mS.images hS) ?_
      | refine z_dq (mS.imageShut hS) ?_
      | refine z_dq (mS.kept hS) ?_
      | refine z_dq (mS.owner hS) ?_
      | refine z_dq (mS.old hS) ?_
      | refine z_dq (mS.letters hS) ?_
      | refine z_dq (mS.toldSizes hS) ?_
      | refine z_dq (mS.sort hS) ?_
      | refine z_dq (mS.room hS) ?_
      | refine z_dq (mS.things hS) ?_
    refine z_bq (fun hp => ?_) (fun hp => ?_)
    · rw [if_neg (by omega)] at k
      repeat first
        | refine z_gq (by omega) ?_
        | refine z_iq rfl (by omega) (by omega) ?_
        | refine z_dq (mS.now hS) ?_
        | refine z_dq (mS.floats hS) ?_
        | refine z_dq (mS.sizes hS) ?_
        | refine z_dq (mS.shut hS) ?_
        | refine z_dq (mS.past hS) ?_
        | refine z_dq (mS.deeds hS) ?_
        | refine z_dq (mS.images hS) ?_
        | refine z_dq (mS.imageShut hS) ?_
        | refine z_dq (mS.kept hS) ?_
        | refine z_dq (mS.owner hS) ?_
        | refine z_dq (mS.old hS) ?_
        | refine z_dq (mS.letters hS) ?_
        | refine z_dq (mS.toldSizes hS) ?_
        | refine z_dq (mS.sort hS) ?_
        | refine z_dq (mS.room hS) ?_
        | refine z_dq (mS.things hS) ?_
      have hno : ¬ (i < A.2.2.1.2.1 o ∧ (A.2.2.1.1 o = 0 ∨ A.2.2.1.1 o = (if 100 < T (8 * r + i) then 2 else 1))) → Q (some (vI h)) u := by
        intro hn
        rw [if_neg hn] at k
        exact k u hA (fM_rfl u)
      refine z_bq (fun hi => ?_) (fun hi => ?_)
      · refine c_isFor hS ho (fun hf => ?_) (fun hf => ?_)
        · rw [eT, eS] at hf
          rw [if_pos ⟨by omega, hf⟩] at k
          refine z_bq (fun hq => ?_) (fun hq => by omega)
          repeat first
            | refine z_gq (by omega) ?_
            | refine z_iq rfl (by omega) (by omega) ?_
            | refine z_dq (mS.now hS) ?_
            | refine z_dq (mS.floats hS) ?_
            | refine z_dq (mS.sizes hS) ?_
            | refine z_dq (mS.shut hS) ?_
            | refine z_dq (mS.past hS) ?_
            | refine z_dq (mS.deeds hS) ?_
            | refine z_dq (mS.images hS) ?_
            | refine z_dq (mS.imageShut hS) ?_
            | refine z_dq (mS.kept hS) ?_
            | refine z_dq (mS.owner hS) ?_
            | refine z_dq (mS.old hS) ?_
            | refine z_dq (mS.letters hS) ?_
            | refine z_dq (mS.toldSizes hS) ?_
            | refine z_dq (mS.sort hS) ?_
            | refine z_dq (mS.room hS) ?_
            | refine z_dq (mS.things hS) ?_
          refine w_pass hr ho n (i + 1) (h + 1) (up T (8 * o + i) (T (8 * r + i))) _ ⟨hV.1, fun j => ?_⟩ ?_ (by omega) (by omega) (by omega) (by omega) (fun u' m1 m2 => k u' m1 (fM_tr (fM_sI _ _ _ (by omega)) m2))
          · show 0 ≤ up T (8 * o + i) (T (8 * r + i)) j ∧ up T (8 * o + i) (T (8 * r + i)) j ≤ 200
            unfold up
            split
            · exact vT
            · exact hV.2 j
          · refine ⟨hS, hA.2.1, hA.2.2.1, ⟨hK.1, fun j j0 j1 => ?_⟩, hA.2.2.2.2⟩
            show (if 155 = 155 ∧ j = 8 * o + i then hI u 155 (8 * r + i) else hI u 155 j) = if j = 8 * o + i then T (8 * r + i) else T j
            by_cases e : j = 8 * o + i
            · rw [if_pos ⟨rfl, e⟩, if_pos e, eT]
            · rw [if_neg (fun z => e z.2), if_neg e, hK.2 j j0 j1]
        · rw [eT, eS] at hf
          exact hno (fun z => hf z.2)
      · exact hno (fun z => by omega)
    · rw [if_pos (by omega)] at k
      refine z_bq (fun hq => by omega) (fun hq => ?_)
      repeat first
        | refine z_gq (by omega) ?_
        | refine z_iq rfl (by omega) (by omega) ?_
        | refine z_dq (mS.now hS) ?_
        | refine z_dq (mS.floats hS) ?_
        | refine z_dq (mS.sizes hS) ?_
        | refine z_dq (mS.shut hS) ?_
        | refine z_dq (mS.past hS) ?_
        | refine z_dq (mS.deeds hS) ?_
        | refine z_dq (mS.images hS) ?_
        | refine z_dq (mS.imageShut hS) ?_
        | refine z_dq (mS.kept hS) ?_
        | refine z_dq (mS.owner hS) ?_
        | refine z_dq (mS.old hS) ?_
        | refine z_dq (mS.letters hS) ?_
        | refine z_dq (mS.toldSizes hS) ?_
        | refine z_dq (mS.sort hS) ?_
        | refine z_dq (mS.room hS) ?_
        | refine z_dq (mS.things hS) ?_
      exact w_pass hr ho n (i + 1) h T u hV hA (by omega) (by omega) (by omega) (by omega) k
theorem c_pass {d : Nat} {r o : Int} {u : aS} {Q : aQ} {A : Al} (hA : mA u A) (hV : vRk A.2.2.1) (h : ∀ u', mA u' (A.1, A.2.1, (oPass A.2.2.1 r o).2, A.2.2.2) → fM u u' → Q (some (vI (oPass A.2.2.1 r o).1)) u') : wpm (d + 3) M_X8_pass [vR 139, vI r, vI o] u Q := by
  have hS := hA.1
  have hK := hA.2.2.2.1
  unfold oPass at h
  refine e_X8_pass rfl (run [(46, [])] 60 ?_)
  refine c_isRack (fun r0 r1 => ?_) (fun r0 => ?_)
  · refine c_isRack (fun o0 o1 => ?_) (fun o0 => ?_)
    · rw [if_neg (by omega)] at h
      have eS := (hK.1 o o0 o1).1
      have eR := (hK.1 r r0 r1).1
      have vR := (hV.1 r r0 r1).2
      repeat first
        | refine z_gq (by omega) ?_
        | refine z_iq rfl (by omega) (by omega) ?_
        | refine z_dq (mS.now hS) ?_
        | refine z_dq (mS.floats hS) ?_
        | refine z_dq (mS.sizes hS) ?_
        | refine z_dq (mS.shut hS) ?_
        | refine z_dq (mS.past hS) ?_
        | refine z_dq (mS.deeds hS) ?_
        | refine z_dq (mS.images hS) ?_
        | refine z_dq (mS.imageShut hS) ?_
        | refine z_dq (mS.kept hS) ?_
        | refine z_dq (mS.owner hS) ?_
        | refine z_dq (mS.old hS) ?_
        | refine z_dq (mS.letters hS) ?_
        | refine z_dq (mS.toldSizes hS) ?_
        | refine z_dq (mS.sort hS) ?_
        | refine z_dq (mS.room hS) ?_
        | refine z_dq (mS.things hS) ?_
      refine z_bq (fun hs => ?_) (fun hs => ?_)
      · rw [if_pos (by omega)] at h
        exact h u hA (fM_rfl u)
      · repeat first
          | refine z_gq (by omega) ?_
          | refine z_iq rfl (by omega) (by omega) ?_
          | refine z_dq (mS.now hS) ?_
          | refine z_dq (mS.floats hS) ?_
          | refine z_dq (mS.sizes hS) ?_
          | refine z_dq (mS.shut hS) ?_
          | refine z_dq (mS.past hS) ?_
          | refine z_dq (mS.deeds hS) ?_
          | refine z_dq (mS.images hS) ?_
          | refine z_dq (mS.imageShut hS) ?_
          | refine z_dq (mS.kept hS) ?_
          | refine z_dq (mS.owner hS) ?_
          | refine z_dq (mS.old hS) ?_
          | refine z_dq (mS.letters hS) ?_
          | refine z_dq (mS.toldSizes hS) ?_
          | refine z_dq (mS.sort hS) ?_
          | refine z_dq (mS.room hS) ?_
          | refine z_dq (mS.things hS) ?_
        refine z_bq (fun ht => ?_) (fun ht => ?_)
        · rw [if_pos (by omega)] at h
          exact h u hA (fM_rfl u)
        · rw [if_neg (by omega)] at h
          repeat first
            | refine z_gq (by omega) ?_
            | refine z_iq rfl (by omega) (by omega) ?_
            | refine z_dq (mS.now hS) ?_
            | refine z_dq (mS.floats hS) ?_
            | refine z_dq (mS.sizes hS) ?_
            | refine z_dq (mS.shut hS) ?_
            | refine z_dq (mS.past hS) ?_
            | refine z_dq (mS.deeds hS) ?_
            | refine z_dq (mS.images hS) ?_
            | refine z_dq (mS.imageShut hS) ?_
            | refine z_dq (mS.kept hS) ?_
            | refine z_dq (mS.owner hS) ?_
            | refine z_dq (mS.old hS) ?_
            | refine z_dq (mS.letters hS) ?_
            | refine z_dq (mS.toldSizes hS) ?_
            | refine z_dq (mS.sort hS) ?_
            | refine z_dq (mS.room hS) ?_
            | refine z_dq (mS.things hS) ?_
          exact w_pass ⟨r0, r1⟩ ⟨o0, o1⟩ _ 0 0 A.2.2.1.2.2 u hV hA (by omega) (by omega) (by omega) (by omega) h
    · rw [if_pos (by omega)] at h
      exact h u hA (fM_rfl u)
  · rw [if_pos (by omega)] at h
    exact h u hA (fM_rfl u)
