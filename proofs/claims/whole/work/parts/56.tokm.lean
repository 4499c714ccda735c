/-! the model's tokens -/
theorem kd_l {X : Tx} {i : Int} (hV : vTx X) (h0 : 0 ≤ i) : (i < X.1 ∧ (0 ≤ lt X i ∧ lt X i ≤ 255) ∧ (kdL X i = 0 ↔ lt X i = 32) ∧ (kdL X i = 1 ↔ 97 ≤ lt X i ∧ lt X i ≤ 122) ∧ (kdL X i = 2 ↔ 48 ≤ lt X i ∧ lt X i ≤ 57) ∧ 0 ≤ kdL X i ∧ kdL X i ≤ 3) ∨ (X.1 ≤ i ∧ lt X i = -1 ∧ kdL X i = 4) := by
  by_cases hi : i < X.1
  · refine Or.inl ⟨hi, ?_⟩
    have v := hV.2 i h0 hi
    unfold lt kdL
    rw [if_pos ⟨h0, hi⟩, if_neg (fun z => z ⟨h0, hi⟩)]
    generalize X.2 i = y at *
    by_cases a : y = 32
    · rw [if_pos a]
      omega
    · rw [if_neg a]
      by_cases b : 97 ≤ y ∧ y ≤ 122
      · rw [if_pos b]
        omega
      · rw [if_neg b]
        by_cases e : 48 ≤ y ∧ y ≤ 57
        · rw [if_pos e]
          omega
        · rw [if_neg e]
          omega
  · refine Or.inr ⟨by omega, ?_, (kdL_4 h0).2 (by omega)⟩
    unfold lt
    rw [if_neg (by omega)]
def mkd (k : Int) : Int := if k = 4 then 0 else k
def nv (X : Tx) (b p : Int) : Int := if p = b then 0 else if p = b + 1 then lt X b - 48 else if p = b + 2 then 10 * (lt X b - 48) + lt X (b + 1) - 48 else if p = b + 3 then 10 * (10 * (lt X b - 48) + lt X (b + 1) - 48) + lt X (b + 2) - 48 else -1
def mvl (X : Tx) (t : Tok) : Int := if t.2.1 = 2 then nv X t.1 t.2.2 else if t.2.1 = 1 then 0 else lt X t.1
def mTok (u : aS) (X : Tx) (t : Tok) : Prop := hI u 139 14 = t.2.2 ∧ hI u 139 15 = t.1 ∧ hI u 139 16 = mkd t.2.1 ∧ hI u 139 17 = mvl X t
/-- of the model only the token has changed -/
def fN (u u' : aS) : Prop := (∀ a i, ¬ (a = 139 ∧ 14 ≤ i ∧ i ≤ 17) → hI u' a i = hI u a i) ∧ (∀ a i, hF u' a i = hF u a i ∧ hR u' a i = hR u a i) ∧ nx u' = nx u
theorem fN_rfl (u : aS) : fN u u := ⟨fun _ _ _ => rfl, fun _ _ => ⟨rfl, rfl⟩, rfl⟩
theorem fN_tr {u v w : aS} (h1 : fN u v) (h2 : fN v w) : fN u w := ⟨fun a i h => (h2.1 a i h).trans (h1.1 a i h), fun a i => ⟨(h2.2.1 a i).1.trans (h1.2.1 a i).1, (h2.2.1 a i).2.trans (h1.2.1 a i).2⟩, h2.2.2.trans h1.2.2⟩
theorem fN_sI (u : aS) (i v : Int) (h : 14 ≤ i ∧ i ≤ 17) : fN u (sI u 139 i v) := ⟨fun a j hj => by rw [hI_sI, if_neg (by omega)], fun _ _ => ⟨rfl, rfl⟩, rfl⟩
theorem fN_S {u u' : aS} (h : fN u u') (hS : mS u) : mS u' := mS_f (fun i => (h.2.1 139 i).2) hS
theorem fN_X {u u' : aS} {X : Tx} (h : fN u u') (hK : mTx u X) : mTx u' X := mTx_f (h.1 139 13 (by omega)) (fun i => h.1 151 i (by omega)) hK
theorem fN_M {u u' : aS} (h : fN u u') : fM u u' := ⟨fun a i ha => ⟨h.1 a i (by omega), h.2.1 a i⟩, h.2.2⟩
theorem c_byteAt {d : Nat} {i : Int} {X : Tx} {u : aS} {Q : aQ} (hS : mS u) (hK : mTx u X) (hV : vTx X) (h0 : 0 ≤ i) (h : Q (some (vI (lt X i))) u) : wpm (d + 1) M_X8_byteAt [vR 139, vI i] u Q := by
  have e := hK.1
  have v := hV.1
  unfold lt at h
  refine e_X8_byteAt rfl (run [] 60 ?_)
  refine z_bq (fun hz => ?_) (fun hz => ?_)
  · rw [if_pos (by omega)] at h
    repeat first
      | refine z_gq (by first | omega | (simp [hI_sI, hI_sF, hI_sR, hI_nw, hI_ff, hI_fl, hI_cp]; try omega)) ?_
      | refine z_iq rfl (by first | omega | (simp [hI_sI, hI_sF, hI_sR, hI_nw, hI_ff, hI_fl, hI_cp]; try omega)) (by first | omega | (simp [hI_sI, hI_sF, hI_sR, hI_nw, hI_ff, hI_fl, hI_cp]; try omega)) ?_
      | refine z_dq (mS.letters hS) ?_
    exact q_eq h (hK.2 i h0 (by omega))
  · rw [if_neg (by omega)] at h
    exact h
theorem w_mw {d : Nat} {X : Tx} {Q : aQ} (hV : vTx X) {c s : Nat} {b c0 : Int} {u0 : aS} (h : ∀ u', fN u0 u' → mTok u' X (b, 1, rnn X 1 (X.1 - b).toNat b) → Q none u') : ∀ (m : Nat) (e : Int) (u : aS), mS u → mTx u X → fN u0 u → mTok u X (b, 1, e) → e + m = X.1 → 0 ≤ e → rnn X 1 m e = rnn X 1 (X.1 - b).toNat b → wp (wpm (d + 1)) cd_X8_next Q 67 [vR 139, vI c0] [] u c s
  | 0, e, u, hS, hK, hf, ht, h1, h2, h3 => by
    have e2 : hI u 139 14 = e := ht.1
    have z := kd_l hV h2
    replace h3 : e = rnn X 1 (X.1 - b).toNat b := h3
    refine run [(67, [])] 60 ?_
    refine c_byteAt hS hK hV (by omega) ?_
    rw [e2]
    refine c_in (fun a0 a1 => by omega) (fun a0 => ?_)
    rw [← h3] at h
    exact h u hf ht
  | m + 1, e, u, hS, hK, hf, ht, h1, h2, h3 => by
    have v := hV.1
    have e2 : hI u 139 14 = e := ht.1
    have z := kd_l hV h2
    replace h3 : (if kdL X e = 1 then rnn X 1 m (e + 1) else e) = rnn X 1 (X.1 - b).toNat b := h3
    refine run [(67, [])] 60 ?_
    refine c_byteAt hS hK hV (by omega) ?_
    rw [e2]
    refine c_in (fun a0 a1 => ?_) (fun a0 => ?_)
    · rw [if_pos (by omega)] at h3
      repeat first
        | refine z_gq (by first | omega | (simp [hI_sI, hI_sF, hI_sR, hI_nw, hI_ff, hI_fl, hI_cp]; try omega)) ?_
        | refine z_iq rfl (by first | omega | (simp [hI_sI, hI_sF, hI_sR, hI_nw, hI_ff, hI_fl, hI_cp]; try omega)) (by first | omega | (simp [hI_sI, hI_sF, hI_sR, hI_nw, hI_ff, hI_fl, hI_cp]; try omega)) ?_
        | refine z_dq (mS.letters hS) ?_
      have f2 : fN u (sI u 139 14 (hI u 139 14 + 1)) := fN_sI u _ _ (by omega)
      refine w_mw hV h m (e + 1) _ (fN_S f2 hS) (fN_X f2 hK) (fN_tr hf f2) ⟨?_, ?_, ?_, ?_⟩ (by omega) (by omega) h3
      · rw [hI_sI, if_pos ⟨rfl, rfl⟩, e2]
      · rw [hI_sI, if_neg (by omega)]
        exact ht.2.1
      · rw [hI_sI, if_neg (by omega)]
        exact ht.2.2.1
      · rw [hI_sI, if_neg (by omega)]
        exact ht.2.2.2
    · rw [if_neg (by omega)] at h3
      rw [← h3] at h
      exact h u hf ht
theorem nv_step {X : Tx} {b p : Int} : b ≤ p → nv X b (p + 1) = if p - b < 3 then 10 * nv X b p + lt X p - 48 else -1 := by
  intro h
  unfold nv
  by_cases h0 : p = b
  · subst h0
    rw [if_neg (by omega), if_pos rfl, if_pos (by omega), if_pos rfl]
    omega
  · rw [if_neg (by omega), if_neg (by omega)]
    by_cases h1 : p = b + 1
    · subst h1
      rw [if_pos (by omega), if_pos (by omega), if_neg h0, if_pos rfl]
    · by_cases h2 : p = b + 2
      · subst h2
        rw [if_neg (by omega), if_pos (by omega), if_pos (by omega), if_neg h0, if_neg h1, if_pos rfl]
      · rw [if_neg (by omega), if_neg (by omega), if_neg (by omega)]
