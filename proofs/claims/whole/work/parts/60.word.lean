/-! the words -/
def mtn (X : Tx) (b : Int) (w : List Int) : Nat → Int → Bool
  | 0, _ => true
  | m + 1, i => decide (lt X (b + i) = w.getD i.toNat 0) && mtn X b w m (i + 1)
def isW (X : Tx) (t : Tok) (w : List Int) : Bool := decide (t.2.2 - t.1 = w.length) && mtn X t.1 w w.length 0
theorem w_isWord {d : Nat} {X : Tx} {t : Tok} {Q : aQ} {u : aS} {a : Nat} (hS : cS u) (hK : cTx u X) (hV : vTx X) (hT : vTok X t) (ht : cTok u t) (ha : 1 ≤ a ∧ a ≤ 7) (hl : t.2.2 - t.1 = (w_tx a).length) {c s : Nat} : ∀ (m : Nat) (i : Int), i + m = (w_tx a).length → 0 ≤ i → (mtn X t.1 (w_tx a) m i = true → Q (some (vI 1)) u) → (mtn X t.1 (w_tx a) m i = false → Q (some (vI 0)) u) → wp (wpm (d + 4)) cd_X1_isWord Q 20 [vR 23, vR a, vI i] [] u c s
  | 0, i, h1, h2, q1, q0 => by
    refine run [(20, [])] 60 ?_
    refine ⟨ha, ?_⟩
    refine z_bq (fun hz => by omega) (fun hz => ?_)
    exact q1 rfl
  | m + 1, i, h1, h2, q1, q0 => by
    have v := hV.1
    have tb := hT.1
    have e3 : hI u 23 3 = t.1 := ht.1
    have un : mtn X t.1 (w_tx a) (m + 1) i = (decide (lt X (t.1 + i) = (w_tx a).getD i.toNat 0) && mtn X t.1 (w_tx a) m (i + 1)) := rfl
    rw [un] at q1 q0
    refine run [(20, [])] 60 ?_
    refine ⟨ha, ?_⟩
    refine z_bq (fun hz => ?_) (fun hz => by omega)
    repeat first
      | refine z_gq (by first | omega | (simp [hI_sI, hI_sF, hI_sR, hI_nw, hI_ff, hI_fl, hI_cp]; try omega)) ?_
      | refine z_iq rfl (by first | omega | (simp [hI_sI, hI_sF, hI_sR, hI_nw, hI_ff, hI_fl, hI_cp]; try omega)) (by first | omega | (simp [hI_sI, hI_sF, hI_sR, hI_nw, hI_ff, hI_fl, hI_cp]; try omega)) ?_
      | refine z_dq (hS.rtext) ?_
    refine k_letterAt hS hK hV ?_
    rw [e3]
    refine ⟨⟨ha.1, ha.2, h2, by omega⟩, ?_⟩
    refine z_bq (fun hy => ?_) (fun hy => ?_)
    · rw [decide_eq_true hy, Bool.true_and] at q1 q0
      repeat first
        | refine z_gq (by first | omega | (simp [hI_sI, hI_sF, hI_sR, hI_nw, hI_ff, hI_fl, hI_cp]; try omega)) ?_
        | refine z_iq rfl (by first | omega | (simp [hI_sI, hI_sF, hI_sR, hI_nw, hI_ff, hI_fl, hI_cp]; try omega)) (by first | omega | (simp [hI_sI, hI_sF, hI_sR, hI_nw, hI_ff, hI_fl, hI_cp]; try omega)) ?_
      exact w_isWord hS hK hV hT ht ha hl m (i + 1) (by omega) (by omega) q1 q0
    · rw [decide_eq_false hy, Bool.false_and] at q0
      exact q0 rfl
theorem k_isWord {d : Nat} {X : Tx} {t : Tok} {Q : aQ} {u : aS} {a : Nat} (hS : cS u) (hK : cTx u X) (hV : vTx X) (hT : vTok X t) (ht : cTok u t) (ha : 1 ≤ a ∧ a ≤ 7) (q1 : isW X t (w_tx a) = true → Q (some (vI 1)) u) (q0 : isW X t (w_tx a) = false → Q (some (vI 0)) u) : wpm (d + 5) M_X1_isWord [vR 23, vR a] u Q := by
  have v := hV.1
  have tb := hT.1
  have e3 : hI u 23 3 = t.1 := ht.1
  have e4 : hI u 23 4 = t.2.2 := ht.2.1
  unfold isW at q1 q0
  refine e_X1_isWord rfl (run [(20, [])] 60 ?_)
  repeat first
    | refine z_gq (by first | omega | (simp [hI_sI, hI_sF, hI_sR, hI_nw, hI_ff, hI_fl, hI_cp]; try omega)) ?_
    | refine z_iq rfl (by first | omega | (simp [hI_sI, hI_sF, hI_sR, hI_nw, hI_ff, hI_fl, hI_cp]; try omega)) (by first | omega | (simp [hI_sI, hI_sF, hI_sR, hI_nw, hI_ff, hI_fl, hI_cp]; try omega)) ?_
  refine ⟨ha, ?_⟩
  refine z_bq (fun hy => ?_) (fun hy => ?_)
  · rw [decide_eq_true (by omega), Bool.true_and] at q1 q0
    exact w_isWord hS hK hV hT ht ha (by omega) (w_tx a).length 0 (by omega) (by omega) q1 q0
  · rw [decide_eq_false (by omega), Bool.false_and] at q0
    exact q0 rfl
/-- which word is here -/
def wh (X : Tx) (t : Tok) : Int := if isW X t (w_tx 1) then 0 else if isW X t (w_tx 2) then 1 else if isW X t (w_tx 3) then 2 else if isW X t (w_tx 4) then 3 else if isW X t (w_tx 5) then 4 else if isW X t (w_tx 6) then 5 else if isW X t (w_tx 7) then 6 else -1
theorem k_wordHere {d : Nat} {X : Tx} {t : Tok} {Q : aQ} {u : aS} (hS : cS u) (hK : cTx u X) (hV : vTx X) (hT : vTok X t) (ht : cTok u t) (h : Q (some (vI (wh X t))) u) : wpm (d + 6) M_X1_wordHere [vR 23] u Q := by
  unfold wh at h
  refine e_X1_wordHere rfl (run [] 60 ?_)
  refine k_isWord hS hK hV hT ht (by omega) (fun g => ?_) (fun g => ?_)
  · rw [if_pos g] at h
    exact h
  rw [if_neg (by rw [g]; decide)] at h
  refine k_isWord hS hK hV hT ht (by omega) (fun g => ?_) (fun g => ?_)
  · rw [if_pos g] at h
    exact h
  rw [if_neg (by rw [g]; decide)] at h
  refine k_isWord hS hK hV hT ht (by omega) (fun g => ?_) (fun g => ?_)
  · rw [if_pos g] at h
    exact h
  rw [if_neg (by rw [g]; decide)] at h
  refine k_isWord hS hK hV hT ht (by omega) (fun g => ?_) (fun g => ?_)
  · rw [if_pos g] at h
    exact h
  rw [if_neg (by rw [g]; decide)] at h
  refine k_isWord hS hK hV hT ht (by omega) (fun g => ?_) (fun g => ?_)
  · rw [if_pos g] at h
    exact h
  rw [if_neg (by rw [g]; decide)] at h
  refine k_isWord hS hK hV hT ht (by omega) (fun g => ?_) (fun g => ?_)
  · rw [if_pos g] at h
    exact h
  rw [if_neg (by rw [g]; decide)] at h
  refine k_isWord hS hK hV hT ht (by omega) (fun g => ?_) (fun g => ?_)
  · rw [if_pos g] at h
    exact h
  rw [if_neg (by rw [g]; decide)] at h
  exact h
/-! the model's words -/
theorem c_isWord {d : Nat} {X : Tx} {t : Tok} {Q : aQ} {u : aS} {l1 l2 l3 l4 l5 : Int} {w : List Int} (hS : mS u) (hK : mTx u X) (hV : vTx X) (hT : vTok X t) (ht : mTok u X t) (hw : w = if l4 = 0 then [l1, l2, l3] else if l5 = 0 then [l1, l2, l3, l4] else [l1, l2, l3, l4, l5]) (hl : 97 ≤ l1 ∧ l1 ≤ 122) (q1 : isW X t w = true → Q (some (vI 1)) u) (q0 : isW X t w = false → Q (some (vI 0)) u) : wpm (d + 2) M_X8_isWord [vR 139, vI l1, vI l2, vI l3, vI l4, vI l5] u Q := by
  have v := hV.1
  have tb := hT.1
  have z := kd_l hV tb.1
  have tk := hT.2.1
  have e14 : hI u 139 14 = t.2.2 := ht.1
  have e15 : hI u 139 15 = t.1 := ht.2.1
  have e16 : hI u 139 16 = mkd t.2.1 := ht.2.2.1
  have k1 : hI u 139 16 = 1 ↔ kdL X t.1 = 1 := by
    rw [e16, tk]
    unfold mkd
    split <;> omega
  have b0 := lt_b hV t.1
  have key : ∀ n, n = (if l4 = 0 then 3 else if l5 = 0 then 4 else 5 : Int) → wp (wpm (d + 1)) cd_X8_isWord Q 21 [vR 139, vI l1, vI l2, vI l3, vI l4, vI l5, vI n] [] u 0 0 := by
    intro n hn
    have hlen : (w.length : Int) = n := by
      rw [hw, hn]
      split
      · rfl
      · split <;> rfl
    have w3 : isW X t w = true ↔ (t.2.2 - t.1 = n ∧ lt X t.1 = l1 ∧ lt X (t.1 + 1) = l2 ∧ lt X (t.1 + 2) = l3 ∧ (4 ≤ n → lt X (t.1 + 3) = l4) ∧ (5 ≤ n → lt X (t.1 + 4) = l5)) := by
      unfold isW
      rw [hlen]
      by_cases c4 : l4 = 0
      · rw [if_pos c4] at hw hn
        subst hw hn
        simp [mtn]
      · rw [if_neg c4] at hw hn
        by_cases c5 : l5 = 0
        · rw [if_pos c5] at hw hn
          subst hw hn
          simp [mtn]
        · rw [if_neg c5] at hw hn
          subst hw hn
          simp [mtn]
    have q0' : ¬ isW X t w = true → Q (some (vI 0)) u := fun z => q0 (by simpa using z)
    rw [w3] at q0' q1
    have n5 : 3 ≤ n ∧ n ≤ 5 := by
      rw [hn]
      split
      · omega
      · split <;> omega
    clear hw w3 q0 hlen hn
    have j : t.2.2 - t.1 = n → lt X t.1 = l1 → lt X (t.1 + 1) = l2 → lt X (t.1 + 2) = l3 → (4 ≤ n → lt X (t.1 + 3) = l4) → wp (wpm (d + 1)) cd_X8_isWord Q 106 [vR 139, vI l1, vI l2, vI l3, vI l4, vI l5, vI n] [] u 0 0 := by
      intro g0 g1 g2 g3 g4
      refine run [] 60 ?_
      refine z_bq (fun hz => ?_) (fun hz => ?_)
      · exact q1 ⟨g0, g1, g2, g3, g4, fun _ => by omega⟩
      · repeat first
          | refine z_gq (by first | omega | (simp [hI_sI, hI_sF, hI_sR, hI_nw, hI_ff, hI_fl, hI_cp]; try omega)) ?_
          | refine z_iq rfl (by first | omega | (simp [hI_sI, hI_sF, hI_sR, hI_nw, hI_ff, hI_fl, hI_cp]; try omega)) (by first | omega | (simp [hI_sI, hI_sF, hI_sR, hI_nw, hI_ff, hI_fl, hI_cp]; try omega)) ?_
          | refine z_dq (mS.letters hS) ?_
        refine c_byteAt hS hK hV (by omega) ?_
        rw [e15]
        refine z_bq (fun hy => ?_) (fun hy => ?_)
        · exact q1 ⟨g0, g1, g2, g3, g4, fun _ => hy⟩
        · exact q0' (fun g => hy (g.2.2.2.2.2 (by omega)))
    refine run [(106, [])] 60 ?_
    refine z_bq (fun hz => ?_) (fun hz => ?_)
    · repeat first
        | refine z_gq (by first | omega | (simp [hI_sI, hI_sF, hI_sR, hI_nw, hI_ff, hI_fl, hI_cp]; try omega)) ?_
        | refine z_iq rfl (by first | omega | (simp [hI_sI, hI_sF, hI_sR, hI_nw, hI_ff, hI_fl, hI_cp]; try omega)) (by first | omega | (simp [hI_sI, hI_sF, hI_sR, hI_nw, hI_ff, hI_fl, hI_cp]; try omega)) ?_
        | refine z_dq (mS.letters hS) ?_
      refine z_bq (fun hy => ?_) (fun hy => ?_)
      · refine c_byteAt hS hK hV (by omega) ?_
        rw [e15]
        refine z_bq (fun g1 => ?_) (fun g1 => ?_)
        · repeat first
            | refine z_gq (by first | omega | (simp [hI_sI, hI_sF, hI_sR, hI_nw, hI_ff, hI_fl, hI_cp]; try omega)) ?_
            | refine z_iq rfl (by first | omega | (simp [hI_sI, hI_sF, hI_sR, hI_nw, hI_ff, hI_fl, hI_cp]; try omega)) (by first | omega | (simp [hI_sI, hI_sF, hI_sR, hI_nw, hI_ff, hI_fl, hI_cp]; try omega)) ?_
            | refine z_dq (mS.letters hS) ?_
          refine c_byteAt hS hK hV (by omega) ?_
          rw [e15]
          refine z_bq (fun g2 => ?_) (fun g2 => ?_)
          · repeat first
              | refine z_gq (by first | omega | (simp [hI_sI, hI_sF, hI_sR, hI_nw, hI_ff, hI_fl, hI_cp]; try omega)) ?_
              | refine z_iq rfl (by first | omega | (simp [hI_sI, hI_sF, hI_sR, hI_nw, hI_ff, hI_fl, hI_cp]; try omega)) (by first | omega | (simp [hI_sI, hI_sF, hI_sR, hI_nw, hI_ff, hI_fl, hI_cp]; try omega)) ?_
              | refine z_dq (mS.letters hS) ?_
            refine c_byteAt hS hK hV (by omega) ?_
            rw [e15]
            refine z_bq (fun g3 => ?_) (fun g3 => ?_)
            · refine z_bq (fun hx => ?_) (fun hx => ?_)
              · exact j (by omega) g1 g2 g3 (fun _ => by omega)
              · repeat first
                  | refine z_gq (by first | omega | (simp [hI_sI, hI_sF, hI_sR, hI_nw, hI_ff, hI_fl, hI_cp]; try omega)) ?_
                  | refine z_iq rfl (by first | omega | (simp [hI_sI, hI_sF, hI_sR, hI_nw, hI_ff, hI_fl, hI_cp]; try omega)) (by first | omega | (simp [hI_sI, hI_sF, hI_sR, hI_nw, hI_ff, hI_fl, hI_cp]; try omega)) ?_
                  | refine z_dq (mS.letters hS) ?_
                refine c_byteAt hS hK hV (by omega) ?_
                rw [e15]
                refine z_bq (fun g4 => ?_) (fun g4 => ?_)
                · exact j (by omega) g1 g2 g3 (fun _ => g4)
                · exact q0' (fun g => g4 (g.2.2.2.2.1 (by omega)))
            · exact q0' (fun g => g3 g.2.2.2.1)
          · exact q0' (fun g => g2 g.2.2.1)
        · exact q0' (fun g => g1 g.2.1)
      · exact q0' (fun g => hy (by have := g.1; omega))
    · exact q0' (fun g => hz (by have := g.2.1; omega))
  refine e_X8_isWord rfl (run [(21, [])] 60 ?_)
  refine z_bq (fun hz => ?_) (fun hz => ?_)
  · exact key 3 (by rw [if_pos hz])
  · refine z_bq (fun hy => ?_) (fun hy => ?_)
    · exact key 4 (by rw [if_neg hz, if_pos hy])
    · exact key 5 (by rw [if_neg hz, if_neg hy])
