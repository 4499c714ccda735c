/-! the text: tokens -/
def lt (X : Tx) (i : Int) : Int := if 0 ≤ i ∧ i < X.1 then X.2 i else -1
def kdL (X : Tx) (i : Int) : Int := if ¬ (0 ≤ i ∧ i < X.1) then 4 else if X.2 i = 32 then 0 else if 97 ≤ X.2 i ∧ X.2 i ≤ 122 then 1 else if 48 ≤ X.2 i ∧ X.2 i ≤ 57 then 2 else 3
def skp (X : Tx) : Nat → Int → Int
  | 0, i => i
  | m + 1, i => if kdL X i = 0 then skp X m (i + 1) else i
def rnn (X : Tx) (k : Int) : Nat → Int → Int
  | 0, i => i
  | m + 1, i => if kdL X i = k then rnn X k m (i + 1) else i
abbrev Tok : Type := Int × Int × Int
def nxt (X : Tx) (e : Int) : Tok := (skp X (X.1 - e).toNat e, kdL X (skp X (X.1 - e).toNat e), if kdL X (skp X (X.1 - e).toNat e) = 3 then skp X (X.1 - e).toNat e + 1 else rnn X (kdL X (skp X (X.1 - e).toNat e)) (X.1 - skp X (X.1 - e).toNat e).toNat (skp X (X.1 - e).toNat e))
theorem skp_b (X : Tx) : ∀ (m : Nat) (i : Int), i + m = X.1 → i ≤ skp X m i ∧ skp X m i ≤ X.1
  | 0, i, h => by
    unfold skp
    omega
  | m + 1, i, h => by
    have := skp_b X m (i + 1) (by omega)
    unfold skp
    split <;> omega
theorem rnn_b (X : Tx) (k : Int) : ∀ (m : Nat) (i : Int), i + m = X.1 → i ≤ rnn X k m i ∧ rnn X k m i ≤ X.1
  | 0, i, h => by
    unfold rnn
    omega
  | m + 1, i, h => by
    have := rnn_b X k m (i + 1) (by omega)
    unfold rnn
    split <;> omega
theorem kdL_4 {X : Tx} {i : Int} (h : 0 ≤ i) : kdL X i = 4 ↔ X.1 ≤ i := by
  unfold kdL
  by_cases hi : 0 ≤ i ∧ i < X.1
  · rw [if_neg (fun z => z hi)]
    split
    · omega
    · split
      · omega
      · split <;> omega
  · rw [if_pos hi]
    omega
/-- where a token lies -/
def vTok (X : Tx) (t : Tok) : Prop := (0 ≤ t.1 ∧ t.1 ≤ t.2.2 ∧ t.2.2 ≤ X.1) ∧ t.2.1 = kdL X t.1 ∧ (t.1 < X.1 → t.1 < t.2.2)
theorem vTok_n {X : Tx} {e : Int} (h0 : 0 ≤ e) (h1 : e ≤ X.1) : vTok X (nxt X e) := by
  have b1 := skp_b X (X.1 - e).toNat e (by omega)
  unfold nxt vTok
  generalize skp X (X.1 - e).toNat e = b at *
  have b2 := rnn_b X (kdL X b) (X.1 - b).toNat b (by omega)
  have k4 := kdL_4 (X := X) (i := b) (by omega)
  simp only []
  refine ⟨?_, trivial, ?_⟩
  · split <;> omega
  · intro hb
    split
    · omega
    · have e1 : (X.1 - b).toNat = (X.1 - b - 1).toNat + 1 := by omega
      rw [e1]
      unfold rnn
      rw [if_pos rfl]
      have := rnn_b X (kdL X b) (X.1 - b - 1).toNat (b + 1) (by omega)
      omega
/-! the class's tokens -/
theorem k_letterAt {d : Nat} {i : Int} {X : Tx} {u : aS} {Q : aQ} (hS : cS u) (hK : cTx u X) (hV : vTx X) (h : Q (some (vI (lt X i))) u) : wpm (d + 2) M_X5_letterAt [vR 21, vI i] u Q := by
  have e := hK.1
  have v := hV.1
  unfold lt at h
  refine e_X5_letterAt rfl (run [] 60 ?_)
  repeat first
    | refine z_gq (by first | omega | (simp [hI_sI, hI_sF, hI_sR, hI_nw, hI_ff, hI_fl, hI_cp]; try omega)) ?_
    | refine z_iq rfl (by first | omega | (simp [hI_sI, hI_sF, hI_sR, hI_nw, hI_ff, hI_fl, hI_cp]; try omega)) (by first | omega | (simp [hI_sI, hI_sF, hI_sR, hI_nw, hI_ff, hI_fl, hI_cp]; try omega)) ?_
  refine k_within (fun a0 a1 => ?_) (fun a0 => ?_)
  · rw [if_pos (by omega)] at h
    repeat first
      | refine z_gq (by first | omega | (simp [hI_sI, hI_sF, hI_sR, hI_nw, hI_ff, hI_fl, hI_cp]; try omega)) ?_
      | refine z_iq rfl (by first | omega | (simp [hI_sI, hI_sF, hI_sR, hI_nw, hI_ff, hI_fl, hI_cp]; try omega)) (by first | omega | (simp [hI_sI, hI_sF, hI_sR, hI_nw, hI_ff, hI_fl, hI_cp]; try omega)) ?_
      | refine z_dq (hS.letters) ?_
    exact q_eq h (hK.2 i a0 (by omega))
  · rw [if_neg (by omega)] at h
    exact h
theorem k_kindAt {d : Nat} {i : Int} {X : Tx} {u : aS} {Q : aQ} (hS : cS u) (hK : cTx u X) (hV : vTx X) (h : Q (some (vI (kdL X i))) u) : wpm (d + 1) M_X5_kindAt [vR 21, vI i] u Q := by
  have e := hK.1
  have v := hV.1
  unfold kdL at h
  refine e_X5_kindAt rfl (run [] 60 ?_)
  refine z_bq (fun h0 => ?_) (fun h0 => ?_)
  · rw [if_pos (by omega)] at h
    exact h
  · refine z_bq (fun h1 => ?_) (fun h1 => ?_)
    · rw [if_neg (by omega)] at h
      have ex := hK.2 i (by omega) (by omega)
      rw [← ex] at h
      repeat first
        | refine z_gq (by first | omega | (simp [hI_sI, hI_sF, hI_sR, hI_nw, hI_ff, hI_fl, hI_cp]; try omega)) ?_
        | refine z_iq rfl (by first | omega | (simp [hI_sI, hI_sF, hI_sR, hI_nw, hI_ff, hI_fl, hI_cp]; try omega)) (by first | omega | (simp [hI_sI, hI_sF, hI_sR, hI_nw, hI_ff, hI_fl, hI_cp]; try omega)) ?_
        | refine z_dq (hS.letters) ?_
      refine z_bq (fun h2 => ?_) (fun h2 => ?_)
      · rw [if_pos h2] at h
        exact h
      · rw [if_neg h2] at h
        refine z_bq (fun h3 => ?_) (fun h3 => ?_)
        · rw [if_neg (by omega)] at h
          refine z_bq (fun h5 => ?_) (fun h5 => ?_)
          · rw [if_neg (by omega)] at h
            exact h
          · refine z_bq (fun h6 => ?_) (fun h6 => ?_)
            · rw [if_neg (by omega)] at h
              exact h
            · rw [if_pos (by omega)] at h
              exact h
        · refine z_bq (fun h4 => ?_) (fun h4 => ?_)
          · rw [if_neg (by omega)] at h
            refine z_bq (fun h5 => by omega) (fun h5 => ?_)
            refine z_bq (fun h6 => ?_) (fun h6 => by omega)
            rw [if_neg (by omega)] at h
            exact h
          · rw [if_pos (by omega)] at h
            exact h
    · rw [if_pos (by omega)] at h
      exact h
def cTok (u : aS) (t : Tok) : Prop := hI u 23 3 = t.1 ∧ hI u 23 4 = t.2.2 ∧ hI u 23 5 = t.2.1
/-- of the reader only begin, end, kind have changed -/
def fT (u u' : aS) : Prop := fA (fun a => a = 23) u u' ∧ (∀ i, hR u' 23 i = hR u 23 i) ∧ ∀ i, ¬ (i = 3 ∨ i = 4 ∨ i = 5) → hI u' 23 i = hI u 23 i
theorem fT_rfl (u : aS) : fT u u := ⟨fA_rfl _ u, fun _ => rfl, fun _ _ => rfl⟩
theorem fT_tr {u v w : aS} (h1 : fT u v) (h2 : fT v w) : fT u w := ⟨fA_tr h1.1 h2.1, fun i => (h2.2.1 i).trans (h1.2.1 i), fun i hi => (h2.2.2 i hi).trans (h1.2.2 i hi)⟩
theorem fT_sI (u : aS) {i v : Int} (h : i = 3 ∨ i = 4 ∨ i = 5) : fT u (sI u 23 i v) := ⟨fA_sI _ _ _ rfl, fun _ => rfl, fun j hj => by rw [hI_sI, if_neg (by omega)]⟩
theorem fT_S {u u' : aS} (h : fT u u') (hS : cS u) : cS u' := cS_h (fun a i ha => by
  by_cases e : a = 23
  · subst e
    exact h.2.1 i
  · exact (h.1.1 a e i).2.2) hS
theorem fT_X {u u' : aS} {X : Tx} (h : fT u u') (hK : cTx u X) : cTx u' X := cTx_f h.1 (fun a => by omega) hK
theorem w_tok2 {d : Nat} {X : Tx} {Q : aQ} (hV : vTx X) {c s : Nat} {b k : Int} {u0 : aS} (h : ∀ u', fT u0 u' → ∀ e, e = rnn X k (X.1 - b).toNat b → cTok u' (b, k, e) → Q none u') : ∀ (m : Nat) (e : Int) (u : aS), cS u → cTx u X → fT u0 u → cTok u (b, k, e) → e + m = X.1 → 0 ≤ e → rnn X k m e = rnn X k (X.1 - b).toNat b → wp (wpm (d + 1)) cd_X1_nextToken Q 93 [vR 23] [] u c s
  | 0, e, u, hS, hK, hf, ht, h1, h2, h3 => by
    have e1 := hK.1
    have e2 : hI u 23 4 = e := ht.2.1
    refine run [(93, [])] 60 ?_
    repeat first
      | refine z_gq (by first | omega | (simp [hI_sI, hI_sF, hI_sR, hI_nw, hI_ff, hI_fl, hI_cp]; try omega)) ?_
      | refine z_iq rfl (by first | omega | (simp [hI_sI, hI_sF, hI_sR, hI_nw, hI_ff, hI_fl, hI_cp]; try omega)) (by first | omega | (simp [hI_sI, hI_sF, hI_sR, hI_nw, hI_ff, hI_fl, hI_cp]; try omega)) ?_
      | refine z_dq (hS.rtext) ?_
    refine z_bq (fun hz => by omega) (fun hz => ?_)
    exact h u hf e h3 ht
  | m + 1, e, u, hS, hK, hf, ht, h1, h2, h3 => by
    have e1 := hK.1
    have v := hV.1
    obtain ⟨t1, t2, t3⟩ := ht
    have e2 : hI u 23 4 = e := t2
    have e5 : hI u 23 5 = k := t3
    replace h3 : (if kdL X e = k then rnn X k m (e + 1) else e) = rnn X k (X.1 - b).toNat b := h3
    subst e2
    refine run [(93, [])] 60 ?_
    repeat first
      | refine z_gq (by first | omega | (simp [hI_sI, hI_sF, hI_sR, hI_nw, hI_ff, hI_fl, hI_cp]; try omega)) ?_
      | refine z_iq rfl (by first | omega | (simp [hI_sI, hI_sF, hI_sR, hI_nw, hI_ff, hI_fl, hI_cp]; try omega)) (by first | omega | (simp [hI_sI, hI_sF, hI_sR, hI_nw, hI_ff, hI_fl, hI_cp]; try omega)) ?_
      | refine z_dq (hS.rtext) ?_
    refine z_bq (fun hz => ?_) (fun hz => by omega)
    repeat first
      | refine z_gq (by first | omega | (simp [hI_sI, hI_sF, hI_sR, hI_nw, hI_ff, hI_fl, hI_cp]; try omega)) ?_
      | refine z_iq rfl (by first | omega | (simp [hI_sI, hI_sF, hI_sR, hI_nw, hI_ff, hI_fl, hI_cp]; try omega)) (by first | omega | (simp [hI_sI, hI_sF, hI_sR, hI_nw, hI_ff, hI_fl, hI_cp]; try omega)) ?_
      | refine z_dq (hS.rtext) ?_
    refine k_kindAt hS hK hV ?_
    refine z_bq (fun hy => ?_) (fun hy => ?_)
    · rw [if_pos (by omega)] at h3
      repeat first
        | refine z_gq (by first | omega | (simp [hI_sI, hI_sF, hI_sR, hI_nw, hI_ff, hI_fl, hI_cp]; try omega)) ?_
        | refine z_iq rfl (by first | omega | (simp [hI_sI, hI_sF, hI_sR, hI_nw, hI_ff, hI_fl, hI_cp]; try omega)) (by first | omega | (simp [hI_sI, hI_sF, hI_sR, hI_nw, hI_ff, hI_fl, hI_cp]; try omega)) ?_
      generalize hI u 23 4 = e at *
      have f2 : fT u (sI u 23 4 (e + 1)) := fT_sI u (by omega)
      refine w_tok2 hV h m (e + 1) _ (fT_S f2 hS) (fT_X f2 hK) (fT_tr hf f2) ⟨?_, ?_, ?_⟩ (by omega) (by omega) h3
      · rw [hI_sI, if_neg (by omega)]
        exact t1
      · rw [hI_sI, if_pos ⟨rfl, rfl⟩]
      · rw [hI_sI, if_neg (by omega)]
        exact t3
    · rw [if_neg (by omega)] at h3
      exact h u hf _ h3 ⟨t1, t2, t3⟩
theorem w_tok1 {d : Nat} {X : Tx} {Q : aQ} (hV : vTx X) {c s : Nat} {E : Int} {u0 : aS} (h : ∀ u', fT u0 u' → cTok u' (nxt X E) → Q none u') : ∀ (m : Nat) (b : Int) (u : aS), cS u → cTx u X → fT u0 u → hI u 23 3 = b → b + m = X.1 → 0 ≤ b → skp X m b = skp X (X.1 - E).toNat E → wp (wpm (d + 1)) cd_X1_nextToken Q 8 [vR 23] [] u c s := by
  have fin : ∀ (b : Int) (u : aS), cS u → cTx u X → fT u0 u → hI u 23 3 = b → 0 ≤ b → b ≤ X.1 → b = skp X (X.1 - E).toNat E → wp (wpm (d + 1)) cd_X1_nextToken Q 49 [vR 23] [] u c s := by
    intro b u hS hK hf hb h0 h1 h2
    have v := hV.1
    refine run [(93, [])] 60 ?_
    repeat first
      | refine z_gq (by first | omega | (simp [hI_sI, hI_sF, hI_sR, hI_nw, hI_ff, hI_fl, hI_cp]; try omega)) ?_
      | refine z_iq rfl (by first | omega | (simp [hI_sI, hI_sF, hI_sR, hI_nw, hI_ff, hI_fl, hI_cp]; try omega)) (by first | omega | (simp [hI_sI, hI_sF, hI_sR, hI_nw, hI_ff, hI_fl, hI_cp]; try omega)) ?_
      | refine z_dq (hS.rtext) ?_
    refine k_kindAt hS hK hV ?_
    repeat first
      | refine z_gq (by first | omega | (simp [hI_sI, hI_sF, hI_sR, hI_nw, hI_ff, hI_fl, hI_cp]; try omega)) ?_
      | refine z_iq rfl (by first | omega | (simp [hI_sI, hI_sF, hI_sR, hI_nw, hI_ff, hI_fl, hI_cp]; try omega)) (by first | omega | (simp [hI_sI, hI_sF, hI_sR, hI_nw, hI_ff, hI_fl, hI_cp]; try omega)) ?_
    rw [hb]
    have f1 : fT u (sI u 23 5 (kdL X b)) := fT_sI u (by omega)
    have e3 : hI (sI u 23 5 (kdL X b)) 23 3 = b := by
      rw [hI_sI, if_neg (by omega)]
      exact hb
    have f2 : fT u (sI (sI u 23 5 (kdL X b)) 23 4 (hI (sI u 23 5 (kdL X b)) 23 3)) := fT_tr f1 (fT_sI _ (by omega))
    have g3 : hI (sI (sI u 23 5 (kdL X b)) 23 4 (hI (sI u 23 5 (kdL X b)) 23 3)) 23 3 = b := by
      rw [hI_sI, if_neg (by omega)]
      exact e3
    have g4 : hI (sI (sI u 23 5 (kdL X b)) 23 4 (hI (sI u 23 5 (kdL X b)) 23 3)) 23 4 = b := by
      rw [hI_sI, if_pos ⟨rfl, rfl⟩]
      exact e3
    have g5 : hI (sI (sI u 23 5 (kdL X b)) 23 4 (hI (sI u 23 5 (kdL X b)) 23 3)) 23 5 = kdL X b := by
      rw [hI_sI, if_neg (by omega), hI_sI, if_pos ⟨rfl, rfl⟩]
    refine z_bq (fun hz => ?_) (fun hz => ?_)
    · rw [g5] at hz
      repeat first
        | refine z_gq (by first | omega | (simp [hI_sI, hI_sF, hI_sR, hI_nw, hI_ff, hI_fl, hI_cp]; try omega)) ?_
        | refine z_iq rfl (by first | omega | (simp [hI_sI, hI_sF, hI_sR, hI_nw, hI_ff, hI_fl, hI_cp]; try omega)) (by first | omega | (simp [hI_sI, hI_sF, hI_sR, hI_nw, hI_ff, hI_fl, hI_cp]; try omega)) ?_
      refine h _ (fT_tr hf (fT_tr f2 (fT_sI _ (i := 4) (Or.inr (Or.inl rfl))))) ⟨?_, ?_, ?_⟩
      · rw [hI_sI, if_neg (by omega), g3]
        exact h2
      · rw [hI_sI, if_pos ⟨rfl, rfl⟩, g3]
        show b + 1 = if kdL X (skp X (X.1 - E).toNat E) = 3 then _ else _
        rw [← h2, if_pos hz]
      · rw [hI_sI, if_neg (by omega), g5, h2]
        rfl
    · rw [g5] at hz
      refine w_tok2 (b := b) (k := kdL X b) hV (fun u' m1 e m2 m3 => ?_) (X.1 - b).toNat b _ (fT_S f2 hS) (fT_X f2 hK) (fT_rfl _) ⟨g3, g4, g5⟩ (by omega) h0 rfl
      refine h u' (fT_tr hf (fT_tr f2 m1)) ⟨m3.1.trans h2, ?_, m3.2.2.trans (by rw [h2]; rfl)⟩
      rw [m3.2.1]
      show e = if kdL X (skp X (X.1 - E).toNat E) = 3 then _ else _
      rw [← h2, if_neg hz]
      exact m2
  intro m
  induction m with
  | zero =>
    intro b u hS hK hf hb h1 h0 h2
    have e1 := hK.1
    refine run [(8, []), (49, [])] 60 ?_
    repeat first
      | refine z_gq (by first | omega | (simp [hI_sI, hI_sF, hI_sR, hI_nw, hI_ff, hI_fl, hI_cp]; try omega)) ?_
      | refine z_iq rfl (by first | omega | (simp [hI_sI, hI_sF, hI_sR, hI_nw, hI_ff, hI_fl, hI_cp]; try omega)) (by first | omega | (simp [hI_sI, hI_sF, hI_sR, hI_nw, hI_ff, hI_fl, hI_cp]; try omega)) ?_
      | refine z_dq (hS.rtext) ?_
    refine z_bq (fun hz => by omega) (fun hz => ?_)
    exact fin b u hS hK hf hb h0 (by omega) h2
  | succ m ih =>
    intro b u hS hK hf hb h1 h0 h2
    have e1 := hK.1
    have v := hV.1
    replace h2 : (if kdL X b = 0 then skp X m (b + 1) else b) = skp X (X.1 - E).toNat E := h2
    refine run [(8, []), (49, [])] 60 ?_
    repeat first
      | refine z_gq (by first | omega | (simp [hI_sI, hI_sF, hI_sR, hI_nw, hI_ff, hI_fl, hI_cp]; try omega)) ?_
      | refine z_iq rfl (by first | omega | (simp [hI_sI, hI_sF, hI_sR, hI_nw, hI_ff, hI_fl, hI_cp]; try omega)) (by first | omega | (simp [hI_sI, hI_sF, hI_sR, hI_nw, hI_ff, hI_fl, hI_cp]; try omega)) ?_
      | refine z_dq (hS.rtext) ?_
    refine z_bq (fun hz => ?_) (fun hz => by omega)
    repeat first
      | refine z_gq (by first | omega | (simp [hI_sI, hI_sF, hI_sR, hI_nw, hI_ff, hI_fl, hI_cp]; try omega)) ?_
      | refine z_iq rfl (by first | omega | (simp [hI_sI, hI_sF, hI_sR, hI_nw, hI_ff, hI_fl, hI_cp]; try omega)) (by first | omega | (simp [hI_sI, hI_sF, hI_sR, hI_nw, hI_ff, hI_fl, hI_cp]; try omega)) ?_
      | refine z_dq (hS.rtext) ?_
    refine k_kindAt hS hK hV ?_
    rw [hb]
    refine z_bq (fun hy => ?_) (fun hy => ?_)
    · rw [if_pos hy] at h2
      repeat first
        | refine z_gq (by first | omega | (simp [hI_sI, hI_sF, hI_sR, hI_nw, hI_ff, hI_fl, hI_cp]; try omega)) ?_
        | refine z_iq rfl (by first | omega | (simp [hI_sI, hI_sF, hI_sR, hI_nw, hI_ff, hI_fl, hI_cp]; try omega)) (by first | omega | (simp [hI_sI, hI_sF, hI_sR, hI_nw, hI_ff, hI_fl, hI_cp]; try omega)) ?_
      rw [hb]
      have f2 : fT u (sI u 23 3 (b + 1)) := fT_sI u (by omega)
      exact ih (b + 1) _ (fT_S f2 hS) (fT_X f2 hK) (fT_tr hf f2) (by rw [hI_sI, if_pos ⟨rfl, rfl⟩]) (by omega) (by omega) h2
    · rw [if_neg hy] at h2
      exact fin b u hS hK hf hb h0 (by omega) h2
theorem k_nextToken {d : Nat} {X : Tx} {e : Int} {u : aS} {Q : aQ} (hS : cS u) (hK : cTx u X) (hV : vTx X) (he : hI u 23 4 = e) (h0 : 0 ≤ e) (h1 : e ≤ X.1) (h : ∀ u', fT u u' → cTok u' (nxt X e) → Q none u') : wpm (d + 2) M_X1_nextToken [vR 23] u Q := by
  have v := hV.1
  refine e_X1_nextToken rfl (run [(8, [])] 60 ?_)
  subst he
  have f2 : fT u (sI u 23 3 (hI u 23 4)) := fT_sI u (by omega)
  exact w_tok1 (E := hI u 23 4) (u0 := u) hV h (X.1 - hI u 23 4).toNat (hI u 23 4) _ (fT_S f2 hS) (fT_X f2 hK) f2 (by rw [hI_sI, if_pos ⟨rfl, rfl⟩]) (by omega) h0 rfl
