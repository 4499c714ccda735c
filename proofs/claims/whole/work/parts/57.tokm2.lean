/-! the model's tokens: numbers, and the whole -/
theorem lt_b {X : Tx} (hV : vTx X) (i : Int) : -1 ≤ lt X i ∧ lt X i ≤ 255 := by
  unfold lt
  by_cases h : 0 ≤ i ∧ i < X.1
  · rw [if_pos h]
    have := hV.2 i h.1 h.2
    omega
  · rw [if_neg h]
    omega
theorem nv_b {X : Tx} (hV : vTx X) (b p : Int) : -6000 ≤ nv X b p ∧ nv X b p ≤ 30000 := by
  have b0 := lt_b hV b
  have b1 := lt_b hV (b + 1)
  have b2 := lt_b hV (b + 2)
  unfold nv
  repeat' split
  all_goals omega
theorem w_mn {d : Nat} {X : Tx} {Q : aQ} (hV : vTx X) {c s : Nat} {b c0 : Int} {u0 : aS} (h : ∀ u', fN u0 u' → mTok u' X (b, 2, rnn X 2 (X.1 - b).toNat b) → Q none u') : ∀ (m : Nat) (e : Int) (u : aS), mS u → mTx u X → fN u0 u → mTok u X (b, 2, e) → e + m = X.1 → 0 ≤ b → b ≤ e → rnn X 2 m e = rnn X 2 (X.1 - b).toNat b → wp (wpm (d + 1)) cd_X8_next Q 121 [vR 139, vI c0] [] u c s
  | 0, e, u, hS, hK, hf, ht, h1, hb, h2, h3 => by
    have e2 : hI u 139 14 = e := ht.1
    have z := kd_l hV (Int.le_trans hb h2)
    replace h3 : e = rnn X 2 (X.1 - b).toNat b := h3
    refine run [(121, [])] 60 ?_
    refine c_byteAt hS hK hV (by omega) ?_
    rw [e2]
    refine c_in (fun a0 a1 => by omega) (fun a0 => ?_)
    rw [← h3] at h
    exact h u hf ht
  | m + 1, e, u, hS, hK, hf, ht, h1, hb, h2, h3 => by
    have v := hV.1
    have e2 : hI u 139 14 = e := ht.1
    have e3 : hI u 139 15 = b := ht.2.1
    have e4 : hI u 139 16 = 2 := ht.2.2.1
    have e5 : hI u 139 17 = nv X b e := ht.2.2.2
    have z := kd_l hV (Int.le_trans hb h2)
    have nb := nv_b hV b e
    have ns := nv_step (X := X) h2
    replace h3 : (if kdL X e = 2 then rnn X 2 m (e + 1) else e) = rnn X 2 (X.1 - b).toNat b := h3
    have go : ∀ w, w = nv X b (e + 1) → kdL X e = 2 → wp (wpm (d + 1)) cd_X8_next Q 121 [vR 139, vI c0] [] (sI (sI u 139 17 w) 139 14 (hI (sI u 139 17 w) 139 14 + 1)) c s := by
      intro w hw hk
      rw [if_pos hk] at h3
      have f2 : fN u (sI (sI u 139 17 w) 139 14 (hI (sI u 139 17 w) 139 14 + 1)) := fN_tr (fN_sI u _ _ (by omega)) (fN_sI _ _ _ (by omega))
      refine w_mn hV h m (e + 1) _ (fN_S f2 hS) (fN_X f2 hK) (fN_tr hf f2) ⟨?_, ?_, ?_, ?_⟩ (by omega) hb (by omega) h3
      · rw [hI_sI, if_pos ⟨rfl, rfl⟩, hI_sI, if_neg (by omega), e2]
      · rw [hI_sI, if_neg (by omega), hI_sI, if_neg (by omega)]
        exact e3
      · rw [hI_sI, if_neg (by omega), hI_sI, if_neg (by omega)]
        exact e4
      · rw [hI_sI, if_neg (by omega), hI_sI, if_pos ⟨rfl, rfl⟩]
        exact hw
    refine run [(121, [])] 60 ?_
    refine c_byteAt hS hK hV (by omega) ?_
    rw [e2]
    refine c_in (fun a0 a1 => ?_) (fun a0 => ?_)
    · repeat first
        | refine z_gq (by first | omega | (simp [hI_sI, hI_sF, hI_sR, hI_nw, hI_ff, hI_fl, hI_cp]; try omega)) ?_
        | refine z_iq rfl (by first | omega | (simp [hI_sI, hI_sF, hI_sR, hI_nw, hI_ff, hI_fl, hI_cp]; try omega)) (by first | omega | (simp [hI_sI, hI_sF, hI_sR, hI_nw, hI_ff, hI_fl, hI_cp]; try omega)) ?_
        | refine z_dq (mS.letters hS) ?_
      refine z_bq (fun hy => ?_) (fun hy => ?_)
      · rw [if_pos (by omega)] at ns
        repeat first
          | refine z_gq (by first | omega | (simp [hI_sI, hI_sF, hI_sR, hI_nw, hI_ff, hI_fl, hI_cp]; try omega)) ?_
          | refine z_iq rfl (by first | omega | (simp [hI_sI, hI_sF, hI_sR, hI_nw, hI_ff, hI_fl, hI_cp]; try omega)) (by first | omega | (simp [hI_sI, hI_sF, hI_sR, hI_nw, hI_ff, hI_fl, hI_cp]; try omega)) ?_
          | refine z_dq (mS.letters hS) ?_
        refine c_byteAt hS hK hV (by omega) ?_
        rw [e2]
        repeat first
          | refine z_gq (by first | omega | (simp [hI_sI, hI_sF, hI_sR, hI_nw, hI_ff, hI_fl, hI_cp]; try omega)) ?_
          | refine z_iq rfl (by first | omega | (simp [hI_sI, hI_sF, hI_sR, hI_nw, hI_ff, hI_fl, hI_cp]; try omega)) (by first | omega | (simp [hI_sI, hI_sF, hI_sR, hI_nw, hI_ff, hI_fl, hI_cp]; try omega)) ?_
          | refine z_dq (mS.letters hS) ?_
        exact go _ (by omega) (by omega)
      · rw [if_neg (by omega)] at ns
        repeat first
          | refine z_gq (by first | omega | (simp [hI_sI, hI_sF, hI_sR, hI_nw, hI_ff, hI_fl, hI_cp]; try omega)) ?_
          | refine z_iq rfl (by first | omega | (simp [hI_sI, hI_sF, hI_sR, hI_nw, hI_ff, hI_fl, hI_cp]; try omega)) (by first | omega | (simp [hI_sI, hI_sF, hI_sR, hI_nw, hI_ff, hI_fl, hI_cp]; try omega)) ?_
          | refine z_dq (mS.letters hS) ?_
        exact go _ (by omega) (by omega)
    · rw [if_neg (by omega)] at h3
      rw [← h3] at h
      exact h u hf ht
theorem w_mt {d : Nat} {X : Tx} {Q : aQ} (hV : vTx X) {c s : Nat} {b E : Int} {x : aV} {u : aS} (hS : mS u) (hK : mTx u X) (hb : hI u 139 14 = b) (h0 : 0 ≤ b) (h1 : b ≤ X.1) (h2 : b = skp X (X.1 - E).toNat E) (hk : kdL X b ≠ 0) (h : ∀ u', fN u u' → mTok u' X (nxt X E) → Q none u') : wp (wpm (d + 1)) cd_X8_next Q 26 [vR 139, x] [] u c s := by
  have v := hV.1
  have z := kd_l hV h0
  have hn : nxt X E = (b, kdL X b, if kdL X b = 3 then b + 1 else rnn X (kdL X b) (X.1 - b).toNat b) := by
    unfold nxt
    rw [← h2]
  rw [hn] at h
  subst hb
  refine run [(67, []), (121, [])] 60 ?_
  have f1 : fN u (sI u 139 15 (hI u 139 14)) := fN_sI u _ _ (by omega)
  have e1 : hI (sI u 139 15 (hI u 139 14)) 139 14 = hI u 139 14 := by
    rw [hI_sI, if_neg (by omega)]
  refine c_byteAt (fN_S f1 hS) (fN_X f1 hK) hV (by omega) ?_
  rw [e1]
  generalize hB : hI u 139 14 = B at *
  refine c_in (fun a0 a1 => ?_) (fun a0 => ?_)
  · have k1 : kdL X B = 1 := by omega
    rw [k1, if_neg (by omega)] at h
    have f2 : fN u (sI (sI (sI u 139 15 B) 139 17 0) 139 16 1) := fN_tr f1 (fN_tr (fN_sI _ _ _ (by omega)) (fN_sI _ _ _ (by omega)))
    refine w_mw (b := B) hV (fun u' m1 m2 => h u' (fN_tr f2 m1) m2) (X.1 - B).toNat B _ (fN_S f2 hS) (fN_X f2 hK) (fN_rfl _) ⟨?_, ?_, ?_, ?_⟩ (by omega) h0 rfl
    · simp [hI_sI]
      exact hB
    · simp [hI_sI]
    · simp [hI_sI]
      rfl
    · simp [hI_sI]
      rfl
  · refine c_in (fun d0 d1 => ?_) (fun d0 => ?_)
    · have k1 : kdL X B = 2 := by omega
      rw [k1, if_neg (by omega)] at h
      have f2 : fN u (sI (sI (sI u 139 15 B) 139 17 0) 139 16 2) := fN_tr f1 (fN_tr (fN_sI _ _ _ (by omega)) (fN_sI _ _ _ (by omega)))
      refine w_mn (b := B) hV (fun u' m1 m2 => h u' (fN_tr f2 m1) m2) (X.1 - B).toNat B _ (fN_S f2 hS) (fN_X f2 hK) (fN_rfl _) ⟨?_, ?_, ?_, ?_⟩ (by omega) h0 (by omega) rfl
      · simp [hI_sI]
        exact hB
      · simp [hI_sI]
      · simp [hI_sI]
        rfl
      · simp [hI_sI]
        unfold mvl nv
        simp
    · refine z_bq (fun hz => ?_) (fun hz => ?_)
      · have k1 : kdL X B = 4 := by omega
        have r0 : (X.1 - B).toNat = 0 := by omega
        rw [k1, if_neg (by omega), r0] at h
        refine z_bq (fun _ => ?_) (fun hy => by omega)
        repeat first
          | refine z_gq (by first | omega | (simp [hI_sI, hI_sF, hI_sR, hI_nw, hI_ff, hI_fl, hI_cp]; try omega)) ?_
          | refine z_iq rfl (by first | omega | (simp [hI_sI, hI_sF, hI_sR, hI_nw, hI_ff, hI_fl, hI_cp]; try omega)) (by first | omega | (simp [hI_sI, hI_sF, hI_sR, hI_nw, hI_ff, hI_fl, hI_cp]; try omega)) ?_
          | refine z_dq (mS.letters hS) ?_
        refine h _ (fN_tr f1 (fN_tr (fN_sI _ 17 _ (by omega)) (fN_tr (fN_sI _ 16 _ (by omega)) (fN_tr (fN_sI _ 17 _ (by omega)) (fN_sI _ 14 _ (by omega)))))) ⟨?_, ?_, ?_, ?_⟩
        · simp [hI_sI, rnn]
          omega
        · simp [hI_sI]
        · simp [hI_sI, mkd]
        · simp [hI_sI, mvl]
      · have k1 : kdL X B = 3 := by omega
        rw [k1, if_pos rfl] at h
        refine z_bq (fun hy => by omega) (fun _ => ?_)
        repeat first
          | refine z_gq (by first | omega | (simp [hI_sI, hI_sF, hI_sR, hI_nw, hI_ff, hI_fl, hI_cp]; try omega)) ?_
          | refine z_iq rfl (by first | omega | (simp [hI_sI, hI_sF, hI_sR, hI_nw, hI_ff, hI_fl, hI_cp]; try omega)) (by first | omega | (simp [hI_sI, hI_sF, hI_sR, hI_nw, hI_ff, hI_fl, hI_cp]; try omega)) ?_
          | refine z_dq (mS.letters hS) ?_
        refine h _ (fN_tr f1 (fN_tr (fN_sI _ 17 _ (by omega)) (fN_tr (fN_sI _ 16 _ (by omega)) (fN_tr (fN_sI _ 17 _ (by omega)) (fN_sI _ 14 _ (by omega)))))) ⟨?_, ?_, ?_, ?_⟩
        · simp [hI_sI]
          omega
        · simp [hI_sI]
        · simp [hI_sI, mkd]
        · simp [hI_sI, mvl]
