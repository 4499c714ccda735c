/-! the model's tokens: the whole, faults, numbers -/
theorem w_ms {d : Nat} {X : Tx} {Q : aQ} (hV : vTx X) {c s : Nat} {E : Int} {x : aV} {u0 : aS} (h : ∀ u', fN u0 u' → mTok u' X (nxt X E) → Q none u') : ∀ (m : Nat) (b : Int) (u : aS), mS u → mTx u X → fN u0 u → hI u 139 14 = b → b + m = X.1 → 0 ≤ b → skp X m b = skp X (X.1 - E).toNat E → wp (wpm (d + 1)) cd_X8_next Q 0 [vR 139, x] [] u c s
  | 0, b, u, hS, hK, hf, hb, h1, h0, h2 => by
    have z := kd_l hV h0
    replace h2 : b = skp X (X.1 - E).toNat E := h2
    refine run [(0, []), (26, [])] 60 ?_
    refine c_byteAt hS hK hV (by omega) ?_
    rw [hb]
    refine z_bq (fun hz => by omega) (fun hz => ?_)
    exact w_mt hV hS hK hb h0 (by omega) h2 (by omega) (fun u' m1 m2 => h u' (fN_tr hf m1) m2)
  | m + 1, b, u, hS, hK, hf, hb, h1, h0, h2 => by
    have v := hV.1
    have z := kd_l hV h0
    replace h2 : (if kdL X b = 0 then skp X m (b + 1) else b) = skp X (X.1 - E).toNat E := h2
    refine run [(0, []), (26, [])] 60 ?_
    refine c_byteAt hS hK hV (by omega) ?_
    rw [hb]
    refine z_bq (fun hz => ?_) (fun hz => ?_)
    · rw [if_pos (by omega)] at h2
      repeat first
        | refine z_gq (by first | omega | (simp [hI_sI, hI_sF, hI_sR, hI_nw, hI_ff, hI_fl, hI_cp]; try omega)) ?_
        | refine z_iq rfl (by first | omega | (simp [hI_sI, hI_sF, hI_sR, hI_nw, hI_ff, hI_fl, hI_cp]; try omega)) (by first | omega | (simp [hI_sI, hI_sF, hI_sR, hI_nw, hI_ff, hI_fl, hI_cp]; try omega)) ?_
        | refine z_dq (mS.letters hS) ?_
      have f2 : fN u (sI u 139 14 (hI u 139 14 + 1)) := fN_sI u _ _ (by omega)
      refine w_ms hV h m (b + 1) _ (fN_S f2 hS) (fN_X f2 hK) (fN_tr hf f2) ?_ (by omega) (by omega) h2
      rw [hI_sI, if_pos ⟨rfl, rfl⟩, hb]
    · rw [if_neg (by omega)] at h2
      exact w_mt hV hS hK hb h0 (by omega) h2 (by omega) (fun u' m1 m2 => h u' (fN_tr hf m1) m2)
theorem c_next {d : Nat} {X : Tx} {e : Int} {u : aS} {Q : aQ} (hS : mS u) (hK : mTx u X) (hV : vTx X) (he : hI u 139 14 = e) (h0 : 0 ≤ e) (h1 : e ≤ X.1) (h : ∀ u', fN u u' → mTok u' X (nxt X e) → Q none u') : wpm (d + 2) M_X8_next [vR 139] u Q := by
  refine e_X8_next rfl ?_
  exact w_ms (E := e) (u0 := u) hV h (X.1 - e).toNat e u hS hK (fN_rfl u) he (by omega) h0 rfl
/-- of the model only the token and the place have changed -/
def fP (u u' : aS) : Prop := (∀ a i, ¬ (a = 139 ∧ 14 ≤ i ∧ i ≤ 18) → hI u' a i = hI u a i) ∧ (∀ a i, hF u' a i = hF u a i ∧ hR u' a i = hR u a i) ∧ nx u' = nx u
theorem fP_rfl (u : aS) : fP u u := ⟨fun _ _ _ => rfl, fun _ _ => ⟨rfl, rfl⟩, rfl⟩
theorem fP_tr {u v w : aS} (h1 : fP u v) (h2 : fP v w) : fP u w := ⟨fun a i h => (h2.1 a i h).trans (h1.1 a i h), fun a i => ⟨(h2.2.1 a i).1.trans (h1.2.1 a i).1, (h2.2.1 a i).2.trans (h1.2.1 a i).2⟩, h2.2.2.trans h1.2.2⟩
theorem fP_N {u u' : aS} (h : fN u u') : fP u u' := ⟨fun a i hi => h.1 a i (by omega), h.2⟩
theorem fP_sI (u : aS) (v : Int) : fP u (sI u 139 18 v) := ⟨fun a j hj => by rw [hI_sI, if_neg (by omega)], fun _ _ => ⟨rfl, rfl⟩, rfl⟩
theorem fP_S {u u' : aS} (h : fP u u') (hS : mS u) : mS u' := mS_f (fun i => (h.2.1 139 i).2) hS
theorem fP_X {u u' : aS} {X : Tx} (h : fP u u') (hK : mTx u X) : mTx u' X := mTx_f (h.1 139 13 (by omega)) (fun i => h.1 151 i (by omega)) hK
theorem fP_M {u u' : aS} (h : fP u u') : fM u u' := ⟨fun a i ha => ⟨h.1 a i (by omega), h.2.1 a i⟩, h.2.2⟩
theorem mTok_p {u : aS} {X : Tx} {t : Tok} (v : Int) (h : mTok u X t) : mTok (sI u 139 18 v) X t := by
  unfold mTok
  simp [hI_sI]
  exact h
/-- the place of the first fault -/
def flt (p b : Int) : Int := if p < 0 then b else p
theorem c_faults {d : Nat} {X : Tx} {t : Tok} {p : Int} {u : aS} {Q : aQ} (ht : mTok u X t) (hp : hI u 139 18 = p) (h : ∀ u', fP u u' → mTok u' X t → hI u' 139 18 = flt p t.1 → Q none u') : wpm (d + 1) M_X8_faults [vR 139] u Q := by
  unfold flt at h
  refine e_X8_faults rfl (run [] 60 ?_)
  refine z_bq (fun hz => ?_) (fun hz => ?_)
  · rw [if_pos (by omega)] at h
    refine h _ (fP_sI u _) (mTok_p _ ht) ?_
    rw [hI_sI, if_pos ⟨rfl, rfl⟩]
    exact ht.2.1
  · rw [if_neg (by omega)] at h
    refine h _ (fP_sI u _) (mTok_p _ ht) ?_
    rw [hI_sI, if_pos ⟨rfl, rfl⟩]
    exact hp
/-- a number between lo and hi -/
abbrev isN (X : Tx) (t : Tok) (lo hi : Int) : Prop := t.2.1 = 2 ∧ lo ≤ nv X t.1 t.2.2 ∧ nv X t.1 t.2.2 ≤ hi
theorem c_number {d : Nat} {X : Tx} {t : Tok} {p lo hi : Int} {u : aS} {Q : aQ} (hS : mS u) (hK : mTx u X) (hV : vTx X) (hT : vTok X t) (ht : mTok u X t) (hp : hI u 139 18 = p) (hp1 : -1 ≤ p) (h1 : p < 0 → isN X t lo hi → ∀ u', fP u u' → mTok u' X (nxt X t.2.2) → hI u' 139 18 = p → Q (some (vI (nv X t.1 t.2.2))) u') (h0 : ¬ (p < 0 ∧ isN X t lo hi) → ∀ u', fP u u' → mTok u' X t → hI u' 139 18 = flt p t.1 → Q (some (vI lo)) u') : wpm (d + 3) M_X8_number [vR 139, vI lo, vI hi] u Q := by
  have e16 : hI u 139 16 = mkd t.2.1 := ht.2.2.1
  have e17 : hI u 139 17 = mvl X t := ht.2.2.2
  have tb := hT.1
  have fb : 0 ≤ flt p t.1 := by
    unfold flt
    split <;> omega
  refine e_X8_number rfl (run [] 60 ?_)
  refine z_bq (fun hz => ?_) (fun hz => ?_)
  · have k2 : t.2.1 = 2 := by
      rw [e16] at hz
      unfold mkd at hz
      split at hz <;> omega
    have k3 : hI u 139 17 = nv X t.1 t.2.2 := by
      rw [e17]
      unfold mvl
      rw [if_pos k2]
    refine c_in (fun a0 a1 => ?_) (fun a0 => ?_)
    · refine z_bq (fun hy => ?_) (fun hy => ?_)
      · refine c_next hS hK hV ht.1 (by omega) (by omega) (fun u' m1 m2 => ?_)
        exact q_eq (h1 (by omega) ⟨k2, by omega, by omega⟩ u' (fP_N m1) m2 ((m1.1 139 18 (by omega)).trans hp)) k3
      · refine h0 (fun z => by omega) u (fP_rfl u) ht ?_
        unfold flt
        rw [if_neg (by omega)]
        exact hp
    · refine c_faults ht hp (fun u' m1 m2 m3 => ?_)
      refine z_bq (fun hy => by omega) (fun hy => ?_)
      refine h0 (fun z => a0 ?_) u' m1 m2 m3
      rw [k3]
      exact z.2.2
  · refine c_faults ht hp (fun u' m1 m2 m3 => ?_)
    refine z_bq (fun hy => by omega) (fun hy => ?_)
    refine h0 (fun z => hz ?_) u' m1 m2 m3
    rw [e16, z.2.1]
    rfl
