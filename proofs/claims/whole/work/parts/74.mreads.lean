/-! the model reads the text, does nothing -/
theorem mA_W {u u' : aS} {A : Al} (h : fW u u') (hA : mA u A) : mA u' A := by
  have e : ∀ a i, ¬ (a = 139 ∧ 14 ≤ i ∧ i ≤ 20) → ¬ a = 152 → hI u' a i = hI u a i := h.1
  obtain ⟨h1, h2, h3, h4, h5, h6⟩ := hA
  exact ⟨fW_S h h1, mSo_f (e 139 2 (by omega) (by omega)) (fun i => e 141 i (by omega) (by omega)) (fun i => (h.2.1 140 i).1) h2, fW_X h h3, mRk_f (fun i => e 153 i (by omega) (by omega)) (fun i => e 154 i (by omega) (by omega)) (fun i => e 155 i (by omega) (by omega)) h4, mTr_f (fun i => e 142 i (by omega) (by omega)) (fun i => e 143 i (by omega) (by omega)) (fun i => e 144 i (by omega) (by omega)) (fun i => e 145 i (by omega) (by omega)) h5, mKp_f (fun i => e 146 i (by omega) (by omega)) (fun i => e 147 i (by omega) (by omega)) (fun i => e 148 i (by omega) (by omega)) h6⟩
theorem skp_nz (X : Tx) : ∀ (m : Nat) (i : Int), i + m = X.1 → 0 ≤ i → ¬ kdL X (skp X m i) = 0
  | 0, i, h, h0 => by
    have := (kdL_4 (X := X) h0).2 (by omega)
    unfold skp
    omega
  | m + 1, i, h, h0 => by
    have ih := skp_nz X m (i + 1) (by omega) (by omega)
    unfold skp
    by_cases e : kdL X i = 0
    · rw [if_pos e]
      exact ih
    · rw [if_neg e]
      exact e
theorem nt_nz {X : Tx} {t : Tok} (h : vTok X t) : ¬ (nt X t).2.1 = 0 := skp_nz X _ _ (by have := h.1; omega) (by have := h.1; omega)
theorem ite_or {a : Type} {c : Prop} [Decidable c] {x y z : a} (h : (if c then x else y) = z) : x = z ∨ y = z := by
  by_cases g : c
  · rw [if_pos g] at h
    exact Or.inl h
  · rw [if_neg g] at h
    exact Or.inr h
theorem pCl_r {X : Tx} {t t' : Tok} {T : Told} (ht : vTok X t) (h : pCl X t T = .inr t') : ∃ s, vTok X s ∧ t' = nt X s := by
  have t1 := vTok_t ht
  have t2 := vTok_t t1
  have t3 := vTok_t t2
  have t4 := vTok_t t3
  have t5 := vTok_t t4
  unfold pCl at h
  rcases ite_or h with h | h
  · cases h
  rcases ite_or h with h | h
  · cases h
    exact ⟨t, ht, rfl⟩
  rcases ite_or h with h | h
  · unfold pTone at h
    rcases ite_or h with h | h
    · rcases ite_or h with h | h
      · rcases ite_or h with h | h
        · cases h
          exact ⟨_, t3, rfl⟩
        · cases h
      · cases h
    · cases h
  rcases ite_or h with h | h
  · unfold pPut at h
    rcases ite_or h with h | h
    · rcases ite_or h with h | h
      · rcases ite_or h with h | h
        · rcases ite_or h with h | h
          · rcases ite_or h with h | h
            · cases h
              exact ⟨_, t5, rfl⟩
            · cases h
          · cases h
        · cases h
      · cases h
    · cases h
  rcases ite_or h with h | h
  · unfold pFade at h
    rcases ite_or h with h | h
    · rcases ite_or h with h | h
      · rcases ite_or h with h | h
        · rcases ite_or h with h | h
          · cases h
            exact ⟨_, t4, rfl⟩
          · cases h
        · cases h
      · cases h
    · cases h
  rcases ite_or h with h | h
  · unfold pGain at h
    rcases ite_or h with h | h
    · rcases ite_or h with h | h
      · rcases ite_or h with h | h
        · cases h
          exact ⟨_, t3, rfl⟩
        · cases h
      · cases h
    · cases h
  rcases ite_or h with h | h
  · unfold pSh at h
    rcases ite_or h with h | h
    · unfold pShift at h
      rcases ite_or h with h | h
      · rcases ite_or h with h | h
        · cases h
          exact ⟨_, t3, rfl⟩
        · cases h
      · rcases ite_or h with h | h
        · cases h
          exact ⟨_, t2, rfl⟩
        · cases h
    · cases h
  · unfold pShut at h
    rcases ite_or h with h | h
    · cases h
      exact ⟨_, t1, rfl⟩
    · cases h
/-- the kind and the value of a token that the model has -/
theorem mP_k {u0 u : aS} {X : Tx} {t : Tok} {T : Told} {p : Int} (hV : vTx X) (h : mP u0 u X t T p) (hz : ¬ t.2.1 = 0) : (hI u 139 16 = 0 ↔ t.2.1 = 4) ∧ (hI u 139 16 = 3 → hI u 139 17 = lt X t.1) ∧ (lt X t.1 = 59 → hI u 139 16 = 3) := by
  have a16 : hI u 139 16 = mkd t.2.1 := h.2.2.2.1.2.2.1
  have a17 : hI u 139 17 = mvl X t := h.2.2.2.1.2.2.2
  have ak := h.2.2.1.2.1
  have zk := kd_l hV h.b
  rw [ak] at hz
  refine ⟨?_, ?_, ?_⟩
  · rw [a16, ak]
    unfold mkd
    split <;> omega
  · intro e
    have k3 : t.2.1 = 3 := by
      rw [a16, ak] at e
      rw [ak]
      unfold mkd at e
      split at e <;> omega
    rw [a17]
    unfold mvl
    rw [k3]
    rfl
  · intro e
    rw [a16, ak]
    unfold mkd
    split <;> omega
theorem w_reads0 {d : Nat} {X : Tx} {Q : aQ} (hV : vTx X) {cc ss : Nat} {u0 : aS} {z : Int × Int} (h : ∀ u' n, fW u0 u' → hI u' 139 18 = z.1 → Q (some (vI n)) u') : ∀ (m : Nat) (i : Int) (u : aS) (t : Tok) (T : Told), mP u0 u X t T (-1) → vTd T → i + m = 24 → i < 24 → 0 ≤ i → pAll X m i t T = z → wp (wpm (d + 5)) cd_X8_reads Q 52 [vR 139, vI 0, vI i, vI 1] [] u cc ss
  | 0, i, u, t, T, hP, hT, h1, h2, h0, hz => by omega
  | m + 1, i, u, t, T, hP, hT, h1, h2, h0, hz => by
    have a18 := hP.place
    refine run [(118, []), (52, [])] 60 ?_
    refine z_bq (fun hx => ?_) (fun hx => by omega)
    refine c_clause0 hV hP hT (fun t' m0 u' m1 => ?_) (fun t' m0 u' m1 => ?_)
    · have un : pAll X (m + 1) i t T = if t'.2.1 = 4 then (-1, i + 1) else if lt X t'.1 = 59 ∧ ¬ i + 1 = 24 then pAll X m (i + 1) (nt X t') (tCl X t T) else (t'.1, i + 1) := by
        show (match pCl X t T with
          | .inl t' => (t'.1, i)
          | .inr t' => if t'.2.1 = 4 then (-1, i + 1) else if lt X t'.1 = 59 ∧ ¬ i + 1 = 24 then pAll X m (i + 1) (nt X t') (tCl X t T) else (t'.1, i + 1)) = _
        rw [m0]
      rw [un] at hz
      have b18 := m1.place
      obtain ⟨s', hs', es'⟩ := pCl_r hP.2.2.1 m0
      obtain ⟨q4, q3, q59⟩ := mP_k hV m1 (by rw [es']; exact nt_nz hs')
      have last : ¬ (lt X t'.1 = 59 ∧ ¬ i + 1 = 24) → wp (wpm (d + 5)) cd_X8_reads Q 118 [vR 139, vI 0, vI (i + 1), vI 0] [] u' cc ss := by
        intro hn
        refine run [(52, [])] 60 ?_
        refine z_bq (fun hy => ?_) (fun hy => by omega)
        refine z_bq (fun hw => ?_) (fun hw => ?_)
        · rw [if_pos (q4.1 hw)] at hz
          subst hz
          refine run [] 60 ?_
          exact h u' _ m1.2.2.2.2.2.2.2 b18
        · rw [if_neg (fun e => hw (q4.2 e)), if_neg hn] at hz
          subst hz
          refine c_faultP m1 (fun u3 m3 => ?_)
          rw [flt_n (by omega)] at m3
          refine run [] 60 ?_
          exact h u3 _ m3.2.2.2.2.2.2.2 m3.place
      repeat first
        | refine z_gq (by first | omega | (simp [hI_sI, hI_sF, hI_sR, hI_nw, hI_ff, hI_fl, hI_cp]; try omega)) ?_
        | refine z_iq rfl (by first | omega | (simp [hI_sI, hI_sF, hI_sR, hI_nw, hI_ff, hI_fl, hI_cp]; try omega)) (by first | omega | (simp [hI_sI, hI_sF, hI_sR, hI_nw, hI_ff, hI_fl, hI_cp]; try omega)) ?_
      refine z_bq (fun hy => ?_) (fun hy => by omega)
      refine z_bq (fun hw => ?_) (fun hw => ?_)
      · have q5 := q3 hw
        refine z_bq (fun hv => ?_) (fun hv => ?_)
        · refine z_bq (fun hu => ?_) (fun hu => ?_)
          · rw [if_neg (fun e => by have := q4.2 e; omega), if_pos ⟨by omega, by omega⟩] at hz
            refine c_nextP hV m1 (fun u3 m3 => ?_)
            exact w_reads0 hV h m (i + 1) u3 (nt X t') (tCl X t T) m3 (vTd_c m0 hT) (by omega) (by omega) (by omega) hz
          · exact last (by omega)
        · exact last (by omega)
      · exact last (fun e => hw (q59 e.1))
    · have un : pAll X (m + 1) i t T = (t'.1, i) := by
        show (match pCl X t T with
          | .inl t' => (t'.1, i)
          | .inr t' => if t'.2.1 = 4 then (-1, i + 1) else if lt X t'.1 = 59 ∧ ¬ i + 1 = 24 then pAll X m (i + 1) (nt X t') (tCl X t T) else (t'.1, i + 1)) = _
        rw [m0]
      rw [un] at hz
      subst hz
      have b18 := m1.place
      have b0 := m1.b
      repeat first
        | refine z_gq (by first | omega | (simp [hI_sI, hI_sF, hI_sR, hI_nw, hI_ff, hI_fl, hI_cp]; try omega)) ?_
        | refine z_iq rfl (by first | omega | (simp [hI_sI, hI_sF, hI_sR, hI_nw, hI_ff, hI_fl, hI_cp]; try omega)) (by first | omega | (simp [hI_sI, hI_sF, hI_sR, hI_nw, hI_ff, hI_fl, hI_cp]; try omega)) ?_
      refine z_bq (fun hy => by omega) (fun hy => ?_)
      refine run [] 60 ?_
      refine z_bq (fun hy => by omega) (fun hy => ?_)
      exact h u' _ m1.2.2.2.2.2.2.2 b18
/-- toldSizes and the first token -/
theorem w_rstart {d : Nat} {X : Tx} {K : So} {Q : aQ} {z : Int} (hV : vTx X) {cc ss : Nat} {u0 : aS} (hS0 : mS u0) (hX0 : mTx u0 X) (hK0 : mSo u0 K) (h : ∀ u', mP u0 u' X (nxt X 0) (K.1, K.2.1) (-1) → wp (wpm (d + 2)) cd_X8_reads Q 52 [vR 139, vI z, vI 0, vI 1] [] u' cc ss) : ∀ (m : Nat) (i : Int) (u : aS), fW u0 u → hI u 139 20 = K.1 → (∀ s, 0 ≤ s → s < i → hI u 152 s = K.2.1 s) → i + m = 6 → 0 ≤ i → wp (wpm (d + 2)) cd_X8_reads Q 10 [vR 139, vI z, vI i, vU] [] u cc ss
  | 0, i, u, hf, e20, hs, h1, h0 => by
    have hS := fW_S hf hS0
    have v := hV.1
    refine run [(52, [])] 60 ?_
    refine z_bq (fun hz => by omega) (fun hz => ?_)
    repeat first
      | refine z_gq (by first | omega | (simp [hI_sI, hI_sF, hI_sR, hI_nw, hI_ff, hI_fl, hI_cp]; try omega)) ?_
      | refine z_iq rfl (by first | omega | (simp [hI_sI, hI_sF, hI_sR, hI_nw, hI_ff, hI_fl, hI_cp]; try omega)) (by first | omega | (simp [hI_sI, hI_sF, hI_sR, hI_nw, hI_ff, hI_fl, hI_cp]; try omega)) ?_
    have f1 : fW u (sI (sI u 139 18 (-1)) 139 14 0) := ⟨fun a i ha hb => by rw [hI_sI, if_neg (by omega), hI_sI, if_neg (by omega)], fun _ _ => ⟨rfl, rfl⟩, rfl⟩
    refine c_next (e := 0) (fW_S f1 hS) (fW_X (fW_tr hf f1) hX0) hV (by rw [hI_sI, if_pos ⟨rfl, rfl⟩]) (by omega) (by omega) (fun u' m1 m2 => ?_)
    have f2 : fW u0 u' := fW_tr hf (fW_tr f1 (fW_P (fP_N m1)))
    refine h u' ⟨fW_S f2 hS0, fW_X f2 hX0, vTok_n (by omega) (by omega), m2, ?_, fun s s0 s1 => ?_, ?_, f2⟩
    · rw [m1.1 139 20 (by omega), hI_sI, if_neg (by omega), hI_sI, if_neg (by omega)]
      exact e20
    · rw [m1.1 152 s (by omega), hI_sI, if_neg (by omega), hI_sI, if_neg (by omega)]
      exact hs s s0 (by omega)
    · rw [m1.1 139 18 (by omega), hI_sI, if_neg (by omega), hI_sI, if_pos ⟨rfl, rfl⟩]
  | m + 1, i, u, hf, e20, hs, h1, h0 => by
    have hS := fW_S hf hS0
    refine run [(10, [])] 60 ?_
    refine z_bq (fun hz => ?_) (fun hz => by omega)
    repeat first
      | refine z_gq (by first | omega | (simp [hI_sI, hI_sF, hI_sR, hI_nw, hI_ff, hI_fl, hI_cp]; try omega)) ?_
      | refine z_iq rfl (by first | omega | (simp [hI_sI, hI_sF, hI_sR, hI_nw, hI_ff, hI_fl, hI_cp]; try omega)) (by first | omega | (simp [hI_sI, hI_sF, hI_sR, hI_nw, hI_ff, hI_fl, hI_cp]; try omega)) ?_
      | refine z_dq (mS.toldSizes hS) ?_
      | refine z_dq (mS.sizes hS) ?_
    have f1 : fW u (sI u 152 i (hI u 141 i)) := ⟨fun a j ha hb => by rw [hI_sI, if_neg (by omega)], fun _ _ => ⟨rfl, rfl⟩, rfl⟩
    refine w_rstart hV hS0 hX0 hK0 h m (i + 1) _ (fW_tr hf f1) ?_ (fun s s0 s1 => ?_) (by omega) (by omega)
    · rw [hI_sI, if_neg (by omega)]
      exact e20
    · rw [hI_sI]
      by_cases e : s = i
      · rw [if_pos ⟨rfl, e⟩, hf.1 141 i (by omega) (by omega), e]
        exact hK0.2.1 i h0 (by omega)
      · rw [if_neg (fun z => e z.2)]
        exact hs s s0 (by omega)
theorem c_rstart {d : Nat} {X : Tx} {K : So} {Q : aQ} {z : Int} (hV : vTx X) {u : aS} (hS : mS u) (hX : mTx u X) (hK : mSo u K) (h : ∀ u', mP u u' X (nxt X 0) (K.1, K.2.1) (-1) → wp (wpm (d + 2)) cd_X8_reads Q 52 [vR 139, vI z, vI 0, vI 1] [] u' 0 0) : wpm (d + 3) M_X8_reads [vR 139, vI z] u Q := by
  refine e_X8_reads rfl (run [(10, [])] 60 ?_)
  have f1 : fW u (sI u 139 20 (hI u 139 2)) := ⟨fun a j ha hb => by rw [hI_sI, if_neg (by omega)], fun _ _ => ⟨rfl, rfl⟩, rfl⟩
  refine w_rstart hV hS hX hK h 6 0 _ f1 ?_ (fun s s0 s1 => by omega) (by omega) (by omega)
  rw [hI_sI, if_pos ⟨rfl, rfl⟩]
  exact hK.1
theorem c_reads0 {d : Nat} {u : aS} {Q : aQ} {A : Al} (hA : mA u A) (hV : vTx A.2.1) (hT : vTd (A.1.1, A.1.2.1)) (h : ∀ u' n, fW u u' → hI u' 139 18 = (pTx A.2.1 A.1).1 → Q (some (vI n)) u') : wpm (d + 6) M_X8_reads [vR 139, vI 0] u Q := by
  refine c_rstart (d := d + 3) hV hA.1 hA.2.2.1 hA.2.1 (fun u' m => ?_)
  exact w_reads0 hV h 24 0 u' _ _ m hT (by omega) (by omega) (by omega) rfl
theorem c_fault {d : Nat} {u : aS} {Q : aQ} {A : Al} (hA : mA u A) (hV : vTx A.2.1) (hT : vTd (A.1.1, A.1.2.1)) (h : ∀ u', mA u' A → fM u u' → Q (some (vI (pTx A.2.1 A.1).1)) u') : wpm (d + 7) M_X8_fault [vR 139] u Q := by
  refine e_X8_fault rfl (run [] 60 ?_)
  refine c_reads0 hA hV hT (fun u' n m1 m2 => ?_)
  exact q_eq (h u' (mA_W m1 hA) (fW_M m1)) m2
