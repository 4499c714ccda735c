/-! racks: the class -/
theorem k_within {d : Nat} {v lo hi : Int} {u : aS} {Q : aQ} (h1 : lo ≤ v → v ≤ hi → Q (some (vI 1)) u) (h0 : ¬ (lo ≤ v ∧ v ≤ hi) → Q (some (vI 0)) u) : wpm (d + 1) M_X7_isWithin [vI v, vI lo, vI hi] u Q := by
  refine e_X7_isWithin rfl (run [] 40 ?_)
  refine z_bq (fun h => ?_) (fun h => ?_)
  · exact h0 (by omega)
  · refine z_bq (fun h2 => ?_) (fun h2 => ?_)
    · exact h0 (by omega)
    · exact h1 (by omega) (by omega)
theorem k_isRack {d : Nat} {k : Int} {u : aS} {Q : aQ} (h1 : 0 ≤ k → k ≤ 2 → Q (some (vI 1)) u) (h0 : ¬ (0 ≤ k ∧ k ≤ 2) → Q (some (vI 0)) u) : wpm (d + 2) M_X7_isRack [vI k] u Q := by
  refine e_X7_isRack rfl (run [] 40 ?_)
  exact k_within h1 h0
theorem k_isTrack {d : Nat} {k : Int} {u : aS} {Q : aQ} (h1 : 0 ≤ k → k ≤ 3 → Q (some (vI 1)) u) (h0 : ¬ (0 ≤ k ∧ k ≤ 3) → Q (some (vI 0)) u) : wpm (d + 2) M_X7_isTrack [vI k] u Q := by
  refine e_X7_isTrack rfl (run [] 40 ?_)
  exact k_within h1 h0
theorem k_isMoment {d : Nat} {k : Int} {u : aS} {Q : aQ} (h1 : 0 ≤ k → k ≤ 127 → Q (some (vI 1)) u) (h0 : ¬ (0 ≤ k ∧ k ≤ 127) → Q (some (vI 0)) u) : wpm (d + 2) M_X7_isMoment [vI k] u Q := by
  refine e_X7_isMoment rfl (run [] 40 ?_)
  exact k_within h1 h0
def isRk (R : Nat) : Prop := R = 130 ∨ R = 133 ∨ R = 136
theorem isRk.k0 {R : Nat} (h : isRk R) : (kd R).1 = 0 := by
  rcases h with h | h | h <;> subst h <;> rfl
theorem isRk.k1 {R : Nat} (h : isRk R) : kd (R + 1) = (20, 8) := by
  rcases h with h | h | h <;> subst h <;> rfl
theorem isRk.k2 {R : Nat} (h : isRk R) : kd (R + 2) = (20, 8) := by
  rcases h with h | h | h <;> subst h <;> rfl
theorem isRk_r {r : Int} (h0 : 0 ≤ r) (h1 : r ≤ 2) : isRk (130 + 3 * r.toNat) := by
  unfold isRk
  omega
theorem cA_rk {u u' : aS} {A : Al} {K : Rk} (hA : cA u A) (hf : fA (fun a => 130 ≤ a ∧ a ≤ 138) u u') (hK : cRk u' K) : cA u' (A.1, A.2.1, K, A.2.2.2) := by
  obtain ⟨h1, h2, h3, h4, h5, h6, h7⟩ := hA
  exact ⟨cS_f hf (fun a => by omega) h1, Nat.le_trans h2 hf.2, cSo_f hf (fun a => by omega) h3, cTx_f hf (fun a => by omega) h4, hK, cTr_f hf (fun a => by omega) (fun b => by omega) h6, cKp_f hf (by omega) (fun j k _ _ => by omega) (fun b => by omega) h7⟩
/-- one rack has changed -/
theorem cRk_up {u u' : aS} {K : Rk} {r : Int} {S N : Int} {T : Int → Int} {S' N' T' : Int → Int} (hK : cRk u K) (r0 : 0 ≤ r) (r1 : r ≤ 2) (hf : fA (fun a => 130 + 3 * r.toNat ≤ a ∧ a ≤ 132 + 3 * r.toNat) u u') (h : cR1 u' (130 + 3 * r.toNat) S N T) (hS : S' r = S) (hN : N' r = N) (hT : ∀ i, 0 ≤ i → i < 8 → T' (8 * r + i) = T i) (gS : ∀ q, ¬ q = r → S' q = K.1 q) (gN : ∀ q, ¬ q = r → N' q = K.2.1 q) (gT : ∀ q i, ¬ q = r → 0 ≤ i → i < 8 → T' (8 * q + i) = K.2.2 (8 * q + i)) : cRk u' (S', N', T') := by
  intro q q0 q1
  by_cases e : q = r
  · subst e
    obtain ⟨h1, h2, h3, h4, h5, h6⟩ := h
    refine ⟨h1, h2, ?_, ?_, ?_, fun i i0 i1 => ?_⟩
    · show _ = if S' q = -1 then 1 else 0
      rw [hS]
      exact h3
    · show ¬ S' q = -1 → _ = S' q
      rw [hS]
      exact h4
    · show _ = N' q
      rw [hN]
      exact h5
    · show cTh _ _ (T' (8 * q + i))
      rw [hT i i0 i1]
      exact h6 i i0 i1
  · obtain ⟨h1, h2, h3, h4, h5, h6⟩ := cR1_f hf (by omega) (by omega) (by omega) (hK q q0 q1)
    refine ⟨h1, h2, ?_, ?_, ?_, fun i i0 i1 => ?_⟩
    · show _ = if S' q = -1 then 1 else 0
      rw [gS q e]
      exact h3
    · show ¬ S' q = -1 → _ = S' q
      rw [gS q e]
      exact h4
    · show _ = N' q
      rw [gN q e]
      exact h5
    · show cTh _ _ (T' (8 * q + i))
      rw [gT q i e i0 i1]
      exact h6 i i0 i1
theorem w_makeAnew {d : Nat} {Q : aQ} {R : Nat} {a b : Int} (hR' : isRk R) {c s : Nat} : ∀ (n : Nat) (i : Int) (u : aS), hR u R 0 = some (R + 1) → i + n = 8 → 0 ≤ i → Q none (fl u (R + 1) i 8 0) → wp (wpm d) cd_X0_makeAnew Q 17 [vR R, vI a, vI b, vI i] [] u c s
  | 0, i, u, e0, h1, h2, h => by
    refine run [(17, [])] 40 ?_
    refine z_bq (fun hl => ?_) (fun hl => ?_)
    · omega
    · rw [fl_end u _ 0 (by omega)] at h
      exact h
  | n + 1, i, u, e0, h1, h2, h => by
    have k0 := hR'.k0
    have k1 := hR'.k1
    refine run [(17, [])] 40 ?_
    refine z_bq (fun hl => ?_) (fun hl => by omega)
    repeat first
      | refine z_gq (by omega) ?_
      | refine z_iq rfl (by omega) (by omega) ?_
      | refine z_kq (k0) ?_
      | refine z_iq (k1) (by omega) (by omega) ?_
      | refine z_dq (e0) ?_
    refine w_makeAnew hR' n (i + 1) _ e0 (by omega) (by omega) ?_
    rw [← fl_step u _ 0 (by omega)] at h
    exact h
theorem k_makeAnew {d : Nat} {R : Nat} {a b : Int} {u : aS} {Q : aQ} (hR' : isRk R) (e0 : hR u R 0 = some (R + 1)) (h : Q none (fl (sI (sI (sI u R 2 0) R 3 a) R 4 b) (R + 1) 0 8 0)) : wpm (d + 1) M_X0_makeAnew [vR R, vI a, vI b] u Q := by
  have k0 := hR'.k0
  refine e_X0_makeAnew rfl (run [(17, [])] 40 ?_)
  repeat first
    | refine z_gq (by omega) ?_
    | refine z_iq rfl (by omega) (by omega) ?_
    | refine z_kq (k0) ?_
  exact w_makeAnew hR' 8 0 _ e0 (by omega) (by omega) h
/-- rack, of the class -/
theorem k_rack {d : Nat} {r a n : Int} {u : aS} {Q : aQ} {A : Al} (hA : cA u A) (h : ∀ u', cA u' (A.1, A.2.1, (oRack A.2.2.1 r a n).2, A.2.2.2) → fA (fun a => 130 ≤ a ∧ a ≤ 138) u u' → Q (some (vI (oRack A.2.2.1 r a n).1)) u') : wpm (d + 3) M_X7_rack [vR 8, vI r, vI a, vI n] u Q := by
  have hS := hA.1
  have hK := hA.2.2.2.2.1
  unfold oRack at h
  refine e_X7_rack rfl (run [] 40 ?_)
  refine k_isRack (fun r0 r1 => ?_) (fun r0 => ?_)
  · rw [if_neg (by omega)] at h
    refine k_within (fun a0 a1 => ?_) (fun a0 => ?_)
    · refine z_bq (fun hn => ?_) (fun hn => ?_)
      · rw [if_pos (by omega)] at h
        exact h u hA (fA_rfl _ u)
      · rw [if_neg (by omega)] at h
        refine z_bq (fun hm => ?_) (fun hm => ?_)
        · rw [if_pos hm] at h
          exact h u hA (fA_rfl _ u)
        · rw [if_neg hm] at h
          have hr := isRk_r r0 r1
          repeat first
            | refine z_gq (by omega) ?_
            | refine z_iq rfl (by omega) (by omega) ?_
            | refine z_dq (hS.racks) ?_
            | refine z_dq (hS.rack r0 r1) ?_
            | refine z_kq (hr.k0) ?_
          refine k_makeAnew hr (hK r r0 r1).1 ?_
          have hf : fA (fun a => 130 + 3 * r.toNat ≤ a ∧ a ≤ 132 + 3 * r.toNat) u (fl (sI (sI (sI u (130 + 3 * r.toNat) 2 0) (130 + 3 * r.toNat) 3 a) (130 + 3 * r.toNat) 4 n) (130 + 3 * r.toNat + 1) 0 8 0) := fA_tr (fA_sI u _ _ (by omega)) (fA_tr (fA_sI _ _ _ (by omega)) (fA_tr (fA_sI _ _ _ (by omega)) (fA_fl _ _ _ _ (by omega))))
          refine h _ (cA_rk hA (fA_wk hf (fun a => by omega)) (cRk_up (S := a) (N := n) (T := fun _ => 0) hK r0 r1 hf ?_ (if_pos rfl) (if_pos rfl) (fun i i0 i1 => if_pos (by omega)) (fun q e => if_neg e) (fun q e => if_neg e) (fun q i e i0 i1 => if_neg (by omega)))) (fA_wk hf (fun a => by omega))
          obtain ⟨h1, h2, h3, h4, h5, h6⟩ := hK r r0 r1
          refine ⟨h1, h2, ?_, fun _ => ?_, ?_, fun i i0 i1 => ⟨?_, Or.inl ⟨?_, rfl⟩⟩⟩
          · simp [hI_fl, hI_sI]
            omega
          · simp [hI_fl, hI_sI]
          · simp [hI_fl, hI_sI]
          · have := (h6 i i0 i1).1
            simpa [hI_fl, hI_sI] using this
          · simp [hI_fl, hI_sI]
            omega
    · rw [if_pos (by omega)] at h
      exact h u hA (fA_rfl _ u)
  · rw [if_pos (by omega)] at h
    exact h u hA (fA_rfl _ u)
theorem tOn_c {K : Rk} {k : Int} (h : ¬ K.1 k = -1) (h0 : 0 ≤ K.2.1 k) (h8 : K.2.1 k ≤ 8) : tOn K k = cn (fun i => decide (0 < K.2.2 (8 * k + i))) (K.2.1 k).toNat 0 := by
  unfold tOn
  have e : (8 : Nat) = (K.2.1 k).toNat + (8 - (K.2.1 k).toNat) := by omega
  rw [e, cn_a, cn_n (8 - (K.2.1 k).toNat) (0 + ((K.2.1 k).toNat : Int)), Int.add_zero]
  · refine cn_e _ _ (fun j a b => ?_)
    have hl : j < K.2.1 k := by omega
    simp [h, hl]
  · intro j a b
    have hl : ¬ j < K.2.1 k := by omega
    simp [hl]
theorem tOn_m {K : Rk} {k : Int} (h : K.1 k = -1) : tOn K k = 0 := by
  unfold tOn
  refine cn_n _ _ (fun j a b => ?_)
  simp [h]
theorem w_things {d : Nat} {Q : aQ} {R : Nat} {S N : Int} {T : Int → Int} {u : aS} (hr : isRk R) (hC : cR1 u R S N T) (hN : N ≤ 8) {c s : Nat} : ∀ (n : Nat) (i r : Int), i + n = N → 0 ≤ i → 0 ≤ r → r ≤ i → Q (some (vI (r + cn (fun i => decide (0 < T i)) n i))) u → wp (wpm d) cd_X0_things Q 13 [vR R, vI r, vI i] [] u c s
  | 0, i, r, h1, h2, h3, h4, h => by
    have k0 := hr.k0
    have eN := hC.2.2.2.2.1
    refine run [(13, [])] 40 ?_
    repeat first
      | refine z_gq (by omega) ?_
      | refine z_iq rfl (by omega) (by omega) ?_
      | refine z_kq (k0) ?_
    refine z_bq (fun hl => ?_) (fun hl => ?_)
    · omega
    · rw [cn_0, Int.add_zero] at h
      exact h
  | n + 1, i, r, h1, h2, h3, h4, h => by
    have k0 := hr.k0
    have k1 := hr.k1
    have eN := hC.2.2.2.2.1
    have e0 := hC.1
    have ht := hC.2.2.2.2.2 i h2 (by omega)
    rw [cn_s] at h
    refine run [(13, [])] 40 ?_
    repeat first
      | refine z_gq (by omega) ?_
      | refine z_iq rfl (by omega) (by omega) ?_
      | refine z_kq (k0) ?_
    refine z_bq (fun hl => ?_) (fun hl => by omega)
    repeat first
      | refine z_gq (by omega) ?_
      | refine z_iq rfl (by omega) (by omega) ?_
      | refine z_kq (k0) ?_
      | refine z_iq (k1) (by omega) (by omega) ?_
      | refine z_dq (e0) ?_
    unfold cTh at ht
    refine z_bq (fun hz => ?_) (fun hz => ?_)
    · have e : ¬ 0 < T i := by omega
      rw [if_neg (by simp [e]), Int.zero_add] at h
      repeat first
        | refine z_gq (by omega) ?_
        | refine z_iq rfl (by omega) (by omega) ?_
        | refine z_kq (k0) ?_
      exact w_things hr hC hN n (i + 1) r (by omega) (by omega) (by omega) (by omega) h
    · have e : 0 < T i := by omega
      rw [if_pos (by simp [e]), ← Int.add_assoc] at h
      repeat first
        | refine z_gq (by omega) ?_
        | refine z_iq rfl (by omega) (by omega) ?_
        | refine z_kq (k0) ?_
      exact w_things hr hC hN n (i + 1) (r + 1) (by omega) (by omega) (by omega) (by omega) h
theorem k_things {d : Nat} {R : Nat} {r : Int} {K : Rk} {u : aS} {Q : aQ} (hr : isRk R) (hN : 0 ≤ K.2.1 r ∧ K.2.1 r ≤ 8) (hC : cR1 u R (K.1 r) (K.2.1 r) (fun i => K.2.2 (8 * r + i))) (h : Q (some (vI (tOn K r))) u) : wpm (d + 1) M_X0_things [vR R] u Q := by
  have k0 := hr.k0
  have eM := hC.2.2.1
  refine e_X0_things rfl (run [(13, [])] 40 ?_)
  repeat first
    | refine z_gq (by omega) ?_
    | refine z_iq rfl (by omega) (by omega) ?_
    | refine z_kq (k0) ?_
  refine z_bq (fun hz => ?_) (fun hz => ?_)
  · have e : ¬ K.1 r = -1 := by
      intro z
      rw [if_pos z] at eM
      omega
    repeat first
      | refine z_gq (by omega) ?_
      | refine z_iq rfl (by omega) (by omega) ?_
      | refine z_kq (k0) ?_
    refine w_things hr hC hN.2 (K.2.1 r).toNat 0 0 (by omega) (by omega) (by omega) (by omega) ?_
    rw [tOn_c e hN.1 hN.2] at h
    rw [Int.zero_add]
    exact h
  · have e : K.1 r = -1 := by
      apply Classical.byContradiction
      intro z
      rw [if_neg z] at eM
      omega
    rw [tOn_m e] at h
    exact h
theorem k_findAt {d : Nat} {R : Nat} {S N i : Int} {T : Int → Int} {u : aS} {Q : aQ} (hr : isRk R) (hN : 0 ≤ N ∧ N ≤ 8) (hC : cR1 u R S N T) (h1 : S = -1 → Q (some (vI (-2000000011))) u) (h2 : ¬ S = -1 → ¬ (0 ≤ i ∧ i ≤ N - 1) → Q (some (vI (-2000000013))) u) (h3 : ¬ S = -1 → 0 ≤ i → i ≤ N - 1 → Q (some (vI 0)) u) : wpm (d + 2) M_X0_findAt [vR R, vI i] u Q := by
  have k0 := hr.k0
  have eM := hC.2.2.1
  have eN := hC.2.2.2.2.1
  refine e_X0_findAt rfl (run [] 40 ?_)
  repeat first
    | refine z_gq (by omega) ?_
    | refine z_iq rfl (by omega) (by omega) ?_
    | refine z_kq (k0) ?_
  refine z_bq (fun hz => ?_) (fun hz => ?_)
  · have e : ¬ S = -1 := by
      intro z
      rw [if_pos z] at eM
      omega
    repeat first
      | refine z_gq (by omega) ?_
      | refine z_iq rfl (by omega) (by omega) ?_
      | refine z_kq (k0) ?_
    refine k_within (fun i0 i1 => ?_) (fun i0 => ?_)
    · exact h3 e i0 (by omega)
    · exact h2 e (by omega)
  · refine h1 ?_
    apply Classical.byContradiction
    intro z
    rw [if_neg z] at eM
    omega
theorem k_tryToHang {d : Nat} {R : Nat} {S N i a v : Int} {T : Int → Int} {u : aS} {Q : aQ} (hr : isRk R) (hN : 0 ≤ N ∧ N ≤ 8) (hC : cR1 u R S N T) (h1 : S = -1 → Q (some (vI (-2000000011))) u) (h2 : ¬ S = -1 → ¬ (0 ≤ i ∧ i ≤ N - 1) → Q (some (vI (-2000000013))) u) (h3 : ¬ S = -1 → 0 ≤ i → i ≤ N - 1 → ¬ (S = 0 ∨ S = a) → Q (some (vI (-2000000014))) u) (h4 : ¬ S = -1 → 0 ≤ i → i ≤ N - 1 → (S = 0 ∨ S = a) → Q (some (vI 0)) (sI (sI u (R + 1) i a) (R + 2) i v)) : wpm (d + 3) M_X0_tryToHang [vR R, vI i, vI a, vI v] u Q := by
  have k0 := hr.k0
  have k1 := hr.k1
  have k2 := hr.k2
  have e0 := hC.1
  have e1 := hC.2.1
  refine e_X0_tryToHang rfl (run [] 60 ?_)
  repeat first
    | refine z_gq (by omega) ?_
    | refine z_iq rfl (by omega) (by omega) ?_
    | refine z_kq (k0) ?_
  refine k_findAt hr hN hC (fun z => ?_) (fun z1 z2 => ?_) (fun z1 z2 z3 => ?_)
  · exact h1 z
  · exact h2 z1 z2
  · have eS := hC.2.2.2.1 z1
    repeat first
      | refine z_gq (by omega) ?_
      | refine z_iq rfl (by omega) (by omega) ?_
      | refine z_kq (k0) ?_
    refine z_bq (fun hz => ?_) (fun hz => ?_)
    · repeat first
        | refine z_gq (by omega) ?_
        | refine z_iq rfl (by omega) (by omega) ?_
        | refine z_kq (k0) ?_
        | refine z_iq (k1) (by omega) (by omega) ?_
        | refine z_iq (k2) (by omega) (by omega) ?_
        | refine z_dq (e0) ?_
        | refine z_dq (e1) ?_
      exact h4 z1 z2 z3 (by omega)
    · repeat first
        | refine z_gq (by omega) ?_
        | refine z_iq rfl (by omega) (by omega) ?_
        | refine z_kq (k0) ?_
      refine z_bq (fun hy => ?_) (fun hy => ?_)
      · repeat first
          | refine z_gq (by omega) ?_
          | refine z_iq rfl (by omega) (by omega) ?_
          | refine z_kq (k0) ?_
          | refine z_iq (k1) (by omega) (by omega) ?_
          | refine z_iq (k2) (by omega) (by omega) ?_
          | refine z_dq (e0) ?_
          | refine z_dq (e1) ?_
        exact h4 z1 z2 z3 (by omega)
      · exact h3 z1 z2 z3 (by omega)
/-- a thing is hung -/
theorem cR1_hang {u : aS} {R : Nat} {S N i a v : Int} {T T' : Int → Int} (hC : cR1 u R S N T) (ha : 1 ≤ a ∧ a ≤ 2) (hv : 0 ≤ v ∧ v ≤ 99) (hT : ∀ j, 0 ≤ j → j < 8 → T' j = if j = i then thg a v else T j) : cR1 (sI (sI u (R + 1) i a) (R + 2) i v) R S N T' := by
  obtain ⟨h1, h2, h3, h4, h5, h6⟩ := hC
  refine ⟨h1, h2, ?_, fun z => ?_, ?_, fun j j0 j1 => ?_⟩
  · simpa [hI_sI] using h3
  · simpa [hI_sI] using h4 z
  · simpa [hI_sI] using h5
  · have h := h6 j j0 j1
    rw [hT j j0 j1]
    by_cases e : j = i
    · subst e
      rw [if_pos rfl]
      simp [hI_sI, cTh, thg]
      refine ⟨hv, ?_⟩
      split <;> omega
    · rw [if_neg e]
      simpa [hI_sI, e] using h
theorem k_hang {d : Nat} {r i a v : Int} {u : aS} {Q : aQ} {A : Al} (hA : cA u A) (hV : vRk A.2.2.1) (h : ∀ u', cA u' (A.1, A.2.1, (oHang A.2.2.1 r i a v).2, A.2.2.2) → fA (fun a => 130 ≤ a ∧ a ≤ 138) u u' → Q (some (vI (oHang A.2.2.1 r i a v).1)) u') : wpm (d + 4) M_X7_hang [vR 8, vI r, vI i, vI a, vI v] u Q := by
  have hS := hA.1
  have hK := hA.2.2.2.2.1
  unfold oHang at h
  refine e_X7_hang rfl (run [] 60 ?_)
  refine k_isRack (fun r0 r1 => ?_) (fun r0 => ?_)
  · rw [if_neg (by omega)] at h
    refine k_within (fun a0 a1 => ?_) (fun a0 => ?_)
    · refine k_within (fun v0 v1 => ?_) (fun v0 => ?_)
      · rw [if_neg (by omega)] at h
        have hr := isRk_r r0 r1
        repeat first
          | refine z_gq (by omega) ?_
          | refine z_iq rfl (by omega) (by omega) ?_
          | refine z_dq (hS.racks) ?_
          | refine z_dq (hS.rack r0 r1) ?_
          | refine z_kq (hr.k0) ?_
        refine k_tryToHang hr (hV.1 r r0 r1).2 (hK r r0 r1) (fun z1 => ?_) (fun z1 z2 => ?_) (fun z1 z2 z3 z4 => ?_) (fun z1 z2 z3 z4 => ?_)
        · rw [if_pos z1] at h
          exact h u hA (fA_rfl _ u)
        · rw [if_neg z1, if_pos z2] at h
          exact h u hA (fA_rfl _ u)
        · rw [if_neg z1, if_neg (fun z => z ⟨z2, z3⟩), if_pos z4] at h
          exact h u hA (fA_rfl _ u)
        · rw [if_neg z1, if_neg (fun z => z ⟨z2, z3⟩), if_neg (fun z => z z4)] at h
          have vN := (hV.1 r r0 r1).2
          have hf : fA (fun a => 130 + 3 * r.toNat ≤ a ∧ a ≤ 132 + 3 * r.toNat) u (sI (sI u (130 + 3 * r.toNat + 1) i a) (130 + 3 * r.toNat + 2) i v) := fA_tr (fA_sI u _ _ (by omega)) (fA_sI _ _ _ (by omega))
          refine h _ (cA_rk hA (fA_wk hf (fun a => by omega)) (cRk_up hK r0 r1 hf (cR1_hang (T' := fun j => if j = i then thg a v else A.2.2.1.2.2 (8 * r + j)) (hK r r0 r1) ⟨a0, a1⟩ ⟨v0, v1⟩ (fun j _ _ => rfl)) rfl rfl (fun j j0 j1 => ?_) (fun _ _ => rfl) (fun _ _ => rfl) (fun q j e j0 j1 => if_neg (by omega)))) (fA_wk hf (fun a => by omega))
          show (if 8 * r + j = 8 * r + i then thg a v else A.2.2.1.2.2 (8 * r + j)) = if j = i then thg a v else A.2.2.1.2.2 (8 * r + j)
          by_cases e : j = i
          · rw [if_pos e, if_pos (by omega)]
          · rw [if_neg e, if_neg (by omega)]
      · rw [if_pos (by omega)] at h
        exact h u hA (fA_rfl _ u)
    · rw [if_pos (by omega)] at h
      exact h u hA (fA_rfl _ u)
  · rw [if_pos (by omega)] at h
    exact h u hA (fA_rfl _ u)
