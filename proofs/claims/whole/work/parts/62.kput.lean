/-! the class reads puts and shifts -/
def vTd (T : Told) : Prop := (0 ≤ T.1 ∧ T.1 ≤ 6) ∧ ∀ s, 0 ≤ s → s < 6 → 0 ≤ T.2 s ∧ T.2 s ≤ 64
def pPut (X : Tx) (t : Tok) (T : Told) : Tok ⊕ Tok := if isN X t 0 3 then if isN X (nt X t) 0 (T.1 - 1) then if isN X (nt X (nt X t)) 0 (T.2 (vl X (nt X t)) - 1) then if isN X (nt X (nt X (nt X t))) 1 (T.2 (vl X (nt X t)) - vl X (nt X (nt X t))) then if isN X (nt X (nt X (nt X (nt X t)))) 0 (128 - vl X (nt X (nt X (nt X t)))) then .inr (nt X (nt X (nt X (nt X (nt X t))))) else .inl (nt X (nt X (nt X (nt X t)))) else .inl (nt X (nt X (nt X t))) else .inl (nt X (nt X t)) else .inl (nt X t) else .inl t
def rPut (X : Tx) (t : Tok) (r : Int → Int) : Int → Int := upF (upF (upF (upF (upF r 1 (vl X t)) 2 (vl X (nt X t))) 3 (vl X (nt X (nt X t)))) 4 (vl X (nt X (nt X (nt X t))))) 5 (vl X (nt X (nt X (nt X (nt X t)))))
theorem kP.told {u0 u : aS} {R : Nat} {X : Tx} {t : Tok} {T : Told} {r : Int → Int} (h : kP u0 u R X t T r) : hI u 23 7 = T.1 := h.2.2.2.2.1
theorem kP.size {u0 u : aS} {R : Nat} {X : Tx} {t : Tok} {T : Told} {r : Int → Int} (h : kP u0 u R X t T r) {s : Int} (h0 : 0 ≤ s) (h1 : s < 6) : hI u 49 s = T.2 s := h.2.2.2.2.2.1 s h0 h1
theorem kP.row {u0 u : aS} {R : Nat} {X : Tx} {t : Tok} {T : Told} {r : Int → Int} (h : kP u0 u R X t T r) {s : Int} (h0 : 0 ≤ s) (h1 : s < 6) : hI u R s = r s := h.2.2.2.2.2.2.1 s h0 h1
theorem k_readPut {d : Nat} {X : Tx} {t : Tok} {R : Nat} {T : Told} {r : Int → Int} {u0 u : aS} {Q : aQ} (hV : vTx X) (hr : 25 ≤ R ∧ R ≤ 48) (hP : kP u0 u R X t T r) (hT : vTd T) (h1 : ∀ t', pPut X t T = .inr t' → ∀ u', kP u0 u' R X t' T (rPut X t r) → Q (some (vI 1)) u') (h0 : ∀ t', pPut X t T = .inl t' → ∀ u' r', kP u0 u' R X t' T r' → Q (some (vI 0)) u') : wpm (d + 4) M_X1_readPut [vR 23, vR R] u Q := by
  have kc := kd_cl hr.1 hr.2
  have hT1 := hT.1
  unfold pPut at h1 h0
  refine e_X1_readPut rfl (run [] 90 ?_)
  refine k_numP hV hr hP (by omega) (by omega) (fun g1 u1 P1 => ?_) (fun g1 => ?_)
  rotate_left
  · rw [if_neg g1] at h0
    exact h0 _ rfl u _ hP
  rw [if_pos g1] at h1 h0
  have e7 := P1.told
  repeat first
    | refine z_gq (by first | omega | (simp [hI_sI, hI_sF, hI_sR, hI_nw, hI_ff, hI_fl, hI_cp]; try omega)) ?_
    | refine z_iq rfl (by first | omega | (simp [hI_sI, hI_sF, hI_sR, hI_nw, hI_ff, hI_fl, hI_cp]; try omega)) (by first | omega | (simp [hI_sI, hI_sF, hI_sR, hI_nw, hI_ff, hI_fl, hI_cp]; try omega)) ?_
    | refine z_iq (kc) (by first | omega | (simp [hI_sI, hI_sF, hI_sR, hI_nw, hI_ff, hI_fl, hI_cp]; try omega)) (by first | omega | (simp [hI_sI, hI_sF, hI_sR, hI_nw, hI_ff, hI_fl, hI_cp]; try omega)) ?_
  rw [e7]
  refine k_numP hV hr P1 (by omega) (by omega) (fun g2 u2 P2 => ?_) (fun g2 => ?_)
  rotate_left
  · rw [if_neg g2] at h0
    exact h0 _ rfl u1 _ P1
  rw [if_pos g2] at h1 h0
  have b2 : 0 ≤ vl X (nt X t) ∧ vl X (nt X t) ≤ T.1 - 1 := g2.2
  have e2 : hI u2 R 2 = vl X (nt X t) := P2.row (by omega) (by omega)
  have s2 : hI u2 49 (hI u2 R 2) = T.2 (vl X (nt X t)) := by
    rw [e2]
    exact P2.size (by omega) (by omega)
  have v2 := hT.2 (vl X (nt X t)) (by omega) (by omega)
  repeat first
    | refine z_gq (by first | omega | (simp [hI_sI, hI_sF, hI_sR, hI_nw, hI_ff, hI_fl, hI_cp]; try omega)) ?_
    | refine z_iq rfl (by first | omega | (simp [hI_sI, hI_sF, hI_sR, hI_nw, hI_ff, hI_fl, hI_cp]; try omega)) (by first | omega | (simp [hI_sI, hI_sF, hI_sR, hI_nw, hI_ff, hI_fl, hI_cp]; try omega)) ?_
    | refine z_dq (P2.1.told) ?_
    | refine z_iq (kc) (by first | omega | (simp [hI_sI, hI_sF, hI_sR, hI_nw, hI_ff, hI_fl, hI_cp]; try omega)) (by first | omega | (simp [hI_sI, hI_sF, hI_sR, hI_nw, hI_ff, hI_fl, hI_cp]; try omega)) ?_
  rw [s2]
  refine k_numP hV hr P2 (by omega) (by omega) (fun g3 u3 P3 => ?_) (fun g3 => ?_)
  rotate_left
  · rw [if_neg g3] at h0
    exact h0 _ rfl u2 _ P2
  rw [if_pos g3] at h1 h0
  have b3 : 0 ≤ vl X (nt X (nt X t)) ∧ vl X (nt X (nt X t)) ≤ T.2 (vl X (nt X t)) - 1 := g3.2
  have e2' : hI u3 R 2 = vl X (nt X t) := P3.row (by omega) (by omega)
  have e3 : hI u3 R 3 = vl X (nt X (nt X t)) := P3.row (by omega) (by omega)
  have s3 : hI u3 49 (hI u3 R 2) = T.2 (vl X (nt X t)) := by
    rw [e2']
    exact P3.size (by omega) (by omega)
  repeat first
    | refine z_gq (by first | omega | (simp [hI_sI, hI_sF, hI_sR, hI_nw, hI_ff, hI_fl, hI_cp]; try omega)) ?_
    | refine z_iq rfl (by first | omega | (simp [hI_sI, hI_sF, hI_sR, hI_nw, hI_ff, hI_fl, hI_cp]; try omega)) (by first | omega | (simp [hI_sI, hI_sF, hI_sR, hI_nw, hI_ff, hI_fl, hI_cp]; try omega)) ?_
    | refine z_dq (P3.1.told) ?_
    | refine z_iq (kc) (by first | omega | (simp [hI_sI, hI_sF, hI_sR, hI_nw, hI_ff, hI_fl, hI_cp]; try omega)) (by first | omega | (simp [hI_sI, hI_sF, hI_sR, hI_nw, hI_ff, hI_fl, hI_cp]; try omega)) ?_
  rw [s3, e3]
  refine k_numP hV hr P3 (by omega) (by omega) (fun g4 u4 P4 => ?_) (fun g4 => ?_)
  rotate_left
  · rw [if_neg g4] at h0
    exact h0 _ rfl u3 _ P3
  rw [if_pos g4] at h1 h0
  have b4 : 1 ≤ vl X (nt X (nt X (nt X t))) ∧ vl X (nt X (nt X (nt X t))) ≤ T.2 (vl X (nt X t)) - vl X (nt X (nt X t)) := g4.2
  have e4 : hI u4 R 4 = vl X (nt X (nt X (nt X t))) := P4.row (by omega) (by omega)
  repeat first
    | refine z_gq (by first | omega | (simp [hI_sI, hI_sF, hI_sR, hI_nw, hI_ff, hI_fl, hI_cp]; try omega)) ?_
    | refine z_iq rfl (by first | omega | (simp [hI_sI, hI_sF, hI_sR, hI_nw, hI_ff, hI_fl, hI_cp]; try omega)) (by first | omega | (simp [hI_sI, hI_sF, hI_sR, hI_nw, hI_ff, hI_fl, hI_cp]; try omega)) ?_
    | refine z_iq (kc) (by first | omega | (simp [hI_sI, hI_sF, hI_sR, hI_nw, hI_ff, hI_fl, hI_cp]; try omega)) (by first | omega | (simp [hI_sI, hI_sF, hI_sR, hI_nw, hI_ff, hI_fl, hI_cp]; try omega)) ?_
  rw [e4]
  refine k_numP hV hr P4 (by omega) (by omega) (fun g5 u5 P5 => ?_) (fun g5 => ?_)
  rotate_left
  · rw [if_neg g5] at h0
    exact h0 _ rfl u4 _ P4
  rw [if_pos g5] at h1
  exact h1 _ rfl u5 P5
/-- a shift's height: a sign, a number -/
def pShift (X : Tx) (t : Tok) : Tok ⊕ Tok := if lt X t.1 = 45 then if isN X (nt X t) 0 16 then .inr (nt X (nt X t)) else .inl (nt X t) else if isN X t 0 16 then .inr (nt X t) else .inl t
def vShift (X : Tx) (t : Tok) : Int := if lt X t.1 = 45 then - vl X (nt X t) else vl X t
theorem kP_nt {d : Nat} {X : Tx} {t : Tok} {R : Nat} {T : Told} {r : Int → Int} {u0 u : aS} {Q : aQ} (hV : vTx X) (hr : 25 ≤ R ∧ R ≤ 48) (hP : kP u0 u R X t T r) (h : ∀ u', kP u0 u' R X (nt X t) T r → Q none u') : wpm (d + 2) M_X1_nextToken [vR 23] u Q := by
  have tb := hP.2.2.1.1
  exact k_nextToken hP.1 hP.2.1 hV hP.2.2.2.1.2.1 (by omega) (by omega) (fun u' m1 m2 => h u' (kP_T hr hP m1 (vTok_t hP.2.2.1) m2))
theorem k_readShift {d : Nat} {X : Tx} {t : Tok} {R : Nat} {T : Told} {r : Int → Int} {u0 u : aS} {Q : aQ} (hV : vTx X) (hr : 25 ≤ R ∧ R ≤ 48) (hP : kP u0 u R X t T r) (h1 : ∀ t', pShift X t = .inr t' → ∀ u' r', kP u0 u' R X t' T r' → r' 2 = vShift X t → (∀ j, ¬ j = 2 → r' j = r j) → Q (some (vI 1)) u') (h0 : ∀ t', pShift X t = .inl t' → ∀ u' r', kP u0 u' R X t' T r' → Q (some (vI 0)) u') : wpm (d + 4) M_X1_readShift [vR 23, vR R] u Q := by
  have kc := kd_cl hr.1 hr.2
  have e3 : hI u 23 3 = t.1 := hP.2.2.2.1.1
  unfold pShift vShift at h1
  unfold pShift at h0
  refine e_X1_readShift rfl (run [] 60 ?_)
  repeat first
    | refine z_gq (by first | omega | (simp [hI_sI, hI_sF, hI_sR, hI_nw, hI_ff, hI_fl, hI_cp]; try omega)) ?_
    | refine z_iq rfl (by first | omega | (simp [hI_sI, hI_sF, hI_sR, hI_nw, hI_ff, hI_fl, hI_cp]; try omega)) (by first | omega | (simp [hI_sI, hI_sF, hI_sR, hI_nw, hI_ff, hI_fl, hI_cp]; try omega)) ?_
    | refine z_dq (hP.1.rtext) ?_
  refine k_letterAt hP.1 hP.2.1 hV ?_
  rw [e3]
  refine z_bq (fun hz => ?_) (fun hz => ?_)
  · simp only [if_pos hz] at h1 h0
    refine kP_nt hV hr hP (fun u1 P1 => ?_)
    refine k_numP hV hr P1 (by omega) (by omega) (fun g u2 P2 => ?_) (fun g => ?_)
    · rw [if_pos g] at h1
      have e2 : hI u2 R 2 = vl X (nt X t) := P2.row (by omega) (by omega)
      have b2 : 0 ≤ vl X (nt X t) ∧ vl X (nt X t) ≤ 16 := g.2
      repeat first
        | refine z_gq (by first | omega | (simp [hI_sI, hI_sF, hI_sR, hI_nw, hI_ff, hI_fl, hI_cp]; try omega)) ?_
        | refine z_iq rfl (by first | omega | (simp [hI_sI, hI_sF, hI_sR, hI_nw, hI_ff, hI_fl, hI_cp]; try omega)) (by first | omega | (simp [hI_sI, hI_sF, hI_sR, hI_nw, hI_ff, hI_fl, hI_cp]; try omega)) ?_
        | refine z_iq (kc) (by first | omega | (simp [hI_sI, hI_sF, hI_sR, hI_nw, hI_ff, hI_fl, hI_cp]; try omega)) (by first | omega | (simp [hI_sI, hI_sF, hI_sR, hI_nw, hI_ff, hI_fl, hI_cp]; try omega)) ?_
      refine h1 _ rfl _ _ (kP_r hr P2) ?_ (fun j hj => ?_)
      · unfold upF
        rw [if_pos rfl]
        omega
      · unfold upF
        rw [if_neg hj, if_neg hj]
    · rw [if_neg g] at h0
      exact h0 _ rfl u1 _ P1
  · simp only [if_neg hz] at h1 h0
    refine k_numP hV hr hP (by omega) (by omega) (fun g u2 P2 => ?_) (fun g => ?_)
    · rw [if_pos g] at h1
      refine h1 _ rfl _ _ P2 ?_ (fun j hj => ?_)
      · unfold upF
        rw [if_pos rfl]
      · unfold upF
        rw [if_neg hj]
    · rw [if_neg g] at h0
      exact h0 _ rfl u _ hP
