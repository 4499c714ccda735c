/-! the class reads a clause -/
def pFade (X : Tx) (t : Tok) : Tok ⊕ Tok := if isN X t 0 3 then if isN X (nt X t) 0 11 then if isN X (nt X (nt X t)) 0 64 then if isN X (nt X (nt X (nt X t))) 0 64 then .inr (nt X (nt X (nt X (nt X t)))) else .inl (nt X (nt X (nt X t))) else .inl (nt X (nt X t)) else .inl (nt X t) else .inl t
def pGain (X : Tx) (t : Tok) : Tok ⊕ Tok := if isN X t 0 3 then if isN X (nt X t) 0 11 then if isN X (nt X (nt X t)) 0 16 then .inr (nt X (nt X (nt X t))) else .inl (nt X (nt X t)) else .inl (nt X t) else .inl t
def pSh (X : Tx) (t : Tok) : Tok ⊕ Tok := if isN X t 0 3 then pShift X (nt X t) else .inl t
def pShut (X : Tx) (t : Tok) : Tok ⊕ Tok := if isN X t 0 3 then .inr (nt X t) else .inl t
def pCl (X : Tx) (t : Tok) (T : Told) : Tok ⊕ Tok := if wh X t = -1 ∨ (wh X t = 1 ∧ 6 ≤ T.1) then .inl t else if wh X t = 0 then .inr (nt X t) else if wh X t = 1 then pTone X (nt X t) else if wh X t = 2 then pPut X (nt X t) T else if wh X t = 3 then pFade X (nt X t) else if wh X t = 4 then pGain X (nt X t) else if wh X t = 5 then pSh X (nt X t) else pShut X (nt X t)
def tCl (X : Tx) (t : Tok) (T : Told) : Told := if wh X t = 0 then (0, T.2) else if wh X t = 1 then (T.1 + 1, upF T.2 T.1 (vl X (nt X (nt X (nt X t))))) else T
/-- what a row holds after its clause, which begins after the word at t -/
def rCl (X : Tx) (w : Int) (t : Tok) (r : Int → Int) : Prop := r 0 = w ∧ (¬ w = 0 → r 1 = vl X t) ∧ (w = 1 ∨ w = 2 ∨ w = 3 ∨ w = 4 → r 2 = vl X (nt X t) ∧ r 3 = vl X (nt X (nt X t))) ∧ (w = 2 ∨ w = 3 → r 4 = vl X (nt X (nt X (nt X t)))) ∧ (w = 2 → r 5 = vl X (nt X (nt X (nt X (nt X t))))) ∧ (w = 5 → r 2 = vShift X (nt X t))
theorem kP_z {u0 u : aS} {R : Nat} {X : Tx} {t : Tok} {T : Told} {r : Int → Int} {v : Int} (hr : 25 ≤ R ∧ R ≤ 48) (h : kP u0 u R X t T r) : kP u0 (sI u 23 7 v) R X t (v, T.2) r := by
  obtain ⟨p1, p2, p3, p4, p5, p6, p7, p8, p9, p10⟩ := h
  have n23 : ∀ i, ¬ i = 7 → hI (sI u 23 7 v) 23 i = hI u 23 i := fun i hi => by rw [hI_sI, if_neg (by omega)]
  have f0 : fA (fun a => a = 23) u (sI u 23 7 v) := fA_sI u _ _ rfl
  refine ⟨cS_h (fun _ _ _ => rfl) p1, cTx_f f0 (fun a => by omega) p2, p3, ⟨(n23 3 (by omega)).trans p4.1, (n23 4 (by omega)).trans p4.2.1, (n23 5 (by omega)).trans p4.2.2⟩, ?_, fun s s0 s1 => ?_, fun i i0 i1 => ?_, fA_tr p8 (fA_wk f0 (fun a ha => Or.inl ha)), p9, (n23 1 (by omega)).trans p10⟩
  · rw [hI_sI, if_pos ⟨rfl, rfl⟩]
  · rw [hI_sI, if_neg (by omega)]
    exact p6 s s0 s1
  · rw [hI_sI, if_neg (by omega)]
    exact p7 i i0 i1
theorem wh_c (X : Tx) (t : Tok) : wh X t = -1 ∨ wh X t = 0 ∨ wh X t = 1 ∨ wh X t = 2 ∨ wh X t = 3 ∨ wh X t = 4 ∨ wh X t = 5 ∨ wh X t = 6 := by
  unfold wh
  repeat' split
  all_goals omega
theorem k_readClause {d : Nat} {X : Tx} {t : Tok} {R : Nat} {T : Told} {r : Int → Int} {u0 u : aS} {Q : aQ} (hV : vTx X) (hr : 25 ≤ R ∧ R ≤ 48) (hP : kP u0 u R X t T r) (hT : vTd T) (h1 : ∀ t', pCl X t T = .inr t' → ∀ u' r', kP u0 u' R X t' (tCl X t T) r' → rCl X (wh X t) (nt X t) r' → Q (some (vI 1)) u') (h0 : ∀ t', pCl X t T = .inl t' → ∀ u' r' T', kP u0 u' R X t' T' r' → Q (some (vI 0)) u') : wpm (d + 7) M_X1_readClause [vR 23, vR R] u Q := by
  have kc := kd_cl hr.1 hr.2
  have e7 := hP.told
  have hT1 := hT.1
  refine e_X1_readClause rfl (run [] 90 ?_)
  refine k_wordHere hP.1 hP.2.1 hV hP.2.2.1 hP.2.2.2.1 ?_
  rcases wh_c X t with w | w | w | w | w | w | w | w
  · have a : pCl X t T = .inl t := by
      unfold pCl
      rw [if_pos (Or.inl w)]
    rw [a] at h0
    rw [w]
    exact h0 _ rfl u _ _ hP
  · have a : pCl X t T = .inr (nt X t) := by
      unfold pCl
      rw [w]
      simp
    have b : tCl X t T = (0, T.2) := by
      unfold tCl
      rw [if_pos w]
    rw [a, b, w] at h1
    rw [w]
    repeat first
      | refine z_gq (by first | omega | (simp [hI_sI, hI_sF, hI_sR, hI_nw, hI_ff, hI_fl, hI_cp]; try omega)) ?_
      | refine z_iq rfl (by first | omega | (simp [hI_sI, hI_sF, hI_sR, hI_nw, hI_ff, hI_fl, hI_cp]; try omega)) (by first | omega | (simp [hI_sI, hI_sF, hI_sR, hI_nw, hI_ff, hI_fl, hI_cp]; try omega)) ?_
      | refine z_iq (kc) (by first | omega | (simp [hI_sI, hI_sF, hI_sR, hI_nw, hI_ff, hI_fl, hI_cp]; try omega)) (by first | omega | (simp [hI_sI, hI_sF, hI_sR, hI_nw, hI_ff, hI_fl, hI_cp]; try omega)) ?_
    refine kP_nt hV hr (kP_r hr hP) (fun u1 P1 => ?_)
    refine h1 _ rfl _ _ (kP_z hr P1) ⟨?_, fun z => by omega, fun z => by omega, fun z => by omega, fun z => by omega, fun z => by omega⟩
    unfold upF
    rw [if_pos rfl]
  · by_cases h6 : 6 ≤ T.1
    · have a : pCl X t T = .inl t := by
        unfold pCl
        rw [if_pos (Or.inr ⟨w, h6⟩)]
      rw [a] at h0
      rw [w]
      refine z_bq (fun hz => by omega) (fun hz => ?_)
      exact h0 _ rfl u _ _ hP
    · have a : pCl X t T = pTone X (nt X t) := by
        unfold pCl
        rw [w]
        simp [h6]
      have b : tCl X t T = (T.1 + 1, upF T.2 T.1 (vl X (nt X (nt X (nt X t))))) := by
        unfold tCl
        rw [w]
        simp
      rw [a, b, w] at h1
      rw [a] at h0
      rw [w]
      refine z_bq (fun hz => ?_) (fun hz => by omega)
      repeat first
        | refine z_gq (by first | omega | (simp [hI_sI, hI_sF, hI_sR, hI_nw, hI_ff, hI_fl, hI_cp]; try omega)) ?_
        | refine z_iq rfl (by first | omega | (simp [hI_sI, hI_sF, hI_sR, hI_nw, hI_ff, hI_fl, hI_cp]; try omega)) (by first | omega | (simp [hI_sI, hI_sF, hI_sR, hI_nw, hI_ff, hI_fl, hI_cp]; try omega)) ?_
        | refine z_iq (kc) (by first | omega | (simp [hI_sI, hI_sF, hI_sR, hI_nw, hI_ff, hI_fl, hI_cp]; try omega)) (by first | omega | (simp [hI_sI, hI_sF, hI_sR, hI_nw, hI_ff, hI_fl, hI_cp]; try omega)) ?_
      refine kP_nt hV hr (kP_r hr hP) (fun u1 P1 => ?_)
      refine k_readTone hV hr P1 (by omega) (fun t' m0 u' m1 => ?_) (fun t' m0 u' r' m1 => ?_)
      · refine h1 t' m0 u' _ m1 ⟨?_, fun z => ?_, fun z => ⟨?_, ?_⟩, fun z => by omega, fun z => by omega, fun z => by omega⟩
        all_goals simp [rTone, upF]
      · exact h0 t' m0 u' r' _ m1
  · have a : pCl X t T = pPut X (nt X t) T := by
      unfold pCl
      rw [w]
      simp
    have b : tCl X t T = T := by
      unfold tCl
      rw [w]
      simp
    rw [a, b, w] at h1
    rw [a] at h0
    rw [w]
    repeat first
      | refine z_gq (by first | omega | (simp [hI_sI, hI_sF, hI_sR, hI_nw, hI_ff, hI_fl, hI_cp]; try omega)) ?_
      | refine z_iq rfl (by first | omega | (simp [hI_sI, hI_sF, hI_sR, hI_nw, hI_ff, hI_fl, hI_cp]; try omega)) (by first | omega | (simp [hI_sI, hI_sF, hI_sR, hI_nw, hI_ff, hI_fl, hI_cp]; try omega)) ?_
      | refine z_iq (kc) (by first | omega | (simp [hI_sI, hI_sF, hI_sR, hI_nw, hI_ff, hI_fl, hI_cp]; try omega)) (by first | omega | (simp [hI_sI, hI_sF, hI_sR, hI_nw, hI_ff, hI_fl, hI_cp]; try omega)) ?_
    refine kP_nt hV hr (kP_r hr hP) (fun u1 P1 => ?_)
    refine k_readPut hV hr P1 hT (fun t' m0 u' m1 => ?_) (fun t' m0 u' r' m1 => ?_)
    · refine h1 t' m0 u' _ m1 ⟨?_, fun z => ?_, fun z => ⟨?_, ?_⟩, fun z => ?_, fun z => ?_, fun z => by omega⟩
      all_goals simp [rPut, upF]
    · exact h0 t' m0 u' r' _ m1
  · have a : pCl X t T = pFade X (nt X t) := by
      unfold pCl
      rw [w]
      simp
    have b : tCl X t T = T := by
      unfold tCl
      rw [w]
      simp
    rw [a, b, w] at h1
    rw [a] at h0
    rw [w]
    repeat first
      | refine z_gq (by first | omega | (simp [hI_sI, hI_sF, hI_sR, hI_nw, hI_ff, hI_fl, hI_cp]; try omega)) ?_
      | refine z_iq rfl (by first | omega | (simp [hI_sI, hI_sF, hI_sR, hI_nw, hI_ff, hI_fl, hI_cp]; try omega)) (by first | omega | (simp [hI_sI, hI_sF, hI_sR, hI_nw, hI_ff, hI_fl, hI_cp]; try omega)) ?_
      | refine z_iq (kc) (by first | omega | (simp [hI_sI, hI_sF, hI_sR, hI_nw, hI_ff, hI_fl, hI_cp]; try omega)) (by first | omega | (simp [hI_sI, hI_sF, hI_sR, hI_nw, hI_ff, hI_fl, hI_cp]; try omega)) ?_
    refine kP_nt hV hr (kP_r hr hP) (fun u1 P1 => ?_)
    unfold pFade at h1 h0
    refine k_numP hV hr P1 (by omega) (by omega) (fun g1 u2 P2 => ?_) (fun g1 => ?_)
    rotate_left
    · rw [if_neg g1] at h0
      exact h0 _ rfl u1 _ _ P1
    rw [if_pos g1] at h1 h0
    refine k_numP hV hr P2 (by omega) (by omega) (fun g2 u3 P3 => ?_) (fun g2 => ?_)
    rotate_left
    · rw [if_neg g2] at h0
      exact h0 _ rfl u2 _ _ P2
    rw [if_pos g2] at h1 h0
    refine k_numP hV hr P3 (by omega) (by omega) (fun g3 u4 P4 => ?_) (fun g3 => ?_)
    rotate_left
    · rw [if_neg g3] at h0
      exact h0 _ rfl u3 _ _ P3
    rw [if_pos g3] at h1 h0
    refine k_numP hV hr P4 (by omega) (by omega) (fun g4 u5 P5 => ?_) (fun g4 => ?_)
    rotate_left
    · rw [if_neg g4] at h0
      exact h0 _ rfl u4 _ _ P4
    rw [if_pos g4] at h1 h0
    refine h1 _ rfl _ _ P5 ⟨?_, fun z => ?_, fun z => ⟨?_, ?_⟩, fun z => ?_, fun z => by omega, fun z => by omega⟩
    all_goals simp [upF]
  · have a : pCl X t T = pGain X (nt X t) := by
      unfold pCl
      rw [w]
      simp
    have b : tCl X t T = T := by
      unfold tCl
      rw [w]
      simp
    rw [a, b, w] at h1
    rw [a] at h0
    rw [w]
    repeat first
      | refine z_gq (by first | omega | (simp [hI_sI, hI_sF, hI_sR, hI_nw, hI_ff, hI_fl, hI_cp]; try omega)) ?_
      | refine z_iq rfl (by first | omega | (simp [hI_sI, hI_sF, hI_sR, hI_nw, hI_ff, hI_fl, hI_cp]; try omega)) (by first | omega | (simp [hI_sI, hI_sF, hI_sR, hI_nw, hI_ff, hI_fl, hI_cp]; try omega)) ?_
      | refine z_iq (kc) (by first | omega | (simp [hI_sI, hI_sF, hI_sR, hI_nw, hI_ff, hI_fl, hI_cp]; try omega)) (by first | omega | (simp [hI_sI, hI_sF, hI_sR, hI_nw, hI_ff, hI_fl, hI_cp]; try omega)) ?_
    refine kP_nt hV hr (kP_r hr hP) (fun u1 P1 => ?_)
    unfold pGain at h1 h0
    refine k_numP hV hr P1 (by omega) (by omega) (fun g1 u2 P2 => ?_) (fun g1 => ?_)
    rotate_left
    · rw [if_neg g1] at h0
      exact h0 _ rfl u1 _ _ P1
    rw [if_pos g1] at h1 h0
    refine k_numP hV hr P2 (by omega) (by omega) (fun g2 u3 P3 => ?_) (fun g2 => ?_)
    rotate_left
    · rw [if_neg g2] at h0
      exact h0 _ rfl u2 _ _ P2
    rw [if_pos g2] at h1 h0
    refine k_numP hV hr P3 (by omega) (by omega) (fun g3 u4 P4 => ?_) (fun g3 => ?_)
    rotate_left
    · rw [if_neg g3] at h0
      exact h0 _ rfl u3 _ _ P3
    rw [if_pos g3] at h1 h0
    refine h1 _ rfl _ _ P4 ⟨?_, fun z => ?_, fun z => ⟨?_, ?_⟩, fun z => by omega, fun z => by omega, fun z => by omega⟩
    all_goals simp [upF]
  · have a : pCl X t T = pSh X (nt X t) := by
      unfold pCl
      rw [w]
      simp
    have b : tCl X t T = T := by
      unfold tCl
      rw [w]
      simp
    rw [a, b, w] at h1
    rw [a] at h0
    rw [w]
    repeat first
      | refine z_gq (by first | omega | (simp [hI_sI, hI_sF, hI_sR, hI_nw, hI_ff, hI_fl, hI_cp]; try omega)) ?_
      | refine z_iq rfl (by first | omega | (simp [hI_sI, hI_sF, hI_sR, hI_nw, hI_ff, hI_fl, hI_cp]; try omega)) (by first | omega | (simp [hI_sI, hI_sF, hI_sR, hI_nw, hI_ff, hI_fl, hI_cp]; try omega)) ?_
      | refine z_iq (kc) (by first | omega | (simp [hI_sI, hI_sF, hI_sR, hI_nw, hI_ff, hI_fl, hI_cp]; try omega)) (by first | omega | (simp [hI_sI, hI_sF, hI_sR, hI_nw, hI_ff, hI_fl, hI_cp]; try omega)) ?_
    refine kP_nt hV hr (kP_r hr hP) (fun u1 P1 => ?_)
    unfold pSh at h1 h0
    refine k_numP hV hr P1 (by omega) (by omega) (fun g1 u2 P2 => ?_) (fun g1 => ?_)
    rotate_left
    · rw [if_neg g1] at h0
      exact h0 _ rfl u1 _ _ P1
    rw [if_pos g1] at h1 h0
    refine k_readShift hV hr P2 (fun t' m0 u' r' m1 m2 m3 => ?_) (fun t' m0 u' r' m1 => ?_)
    · refine h1 t' m0 u' r' m1 ⟨?_, fun z => ?_, fun z => by omega, fun z => by omega, fun z => by omega, fun z => m2⟩
      · rw [m3 0 (by omega)]
        simp [upF]
      · rw [m3 1 (by omega)]
        simp [upF]
    · exact h0 t' m0 u' r' _ m1
  · have a : pCl X t T = pShut X (nt X t) := by
      unfold pCl
      rw [w]
      simp
    have b : tCl X t T = T := by
      unfold tCl
      rw [w]
      simp
    rw [a, b, w] at h1
    rw [a] at h0
    rw [w]
    repeat first
      | refine z_gq (by first | omega | (simp [hI_sI, hI_sF, hI_sR, hI_nw, hI_ff, hI_fl, hI_cp]; try omega)) ?_
      | refine z_iq rfl (by first | omega | (simp [hI_sI, hI_sF, hI_sR, hI_nw, hI_ff, hI_fl, hI_cp]; try omega)) (by first | omega | (simp [hI_sI, hI_sF, hI_sR, hI_nw, hI_ff, hI_fl, hI_cp]; try omega)) ?_
      | refine z_iq (kc) (by first | omega | (simp [hI_sI, hI_sF, hI_sR, hI_nw, hI_ff, hI_fl, hI_cp]; try omega)) (by first | omega | (simp [hI_sI, hI_sF, hI_sR, hI_nw, hI_ff, hI_fl, hI_cp]; try omega)) ?_
    refine kP_nt hV hr (kP_r hr hP) (fun u1 P1 => ?_)
    unfold pShut at h1 h0
    refine k_numP hV hr P1 (by omega) (by omega) (fun g1 u2 P2 => ?_) (fun g1 => ?_)
    rotate_left
    · rw [if_neg g1] at h0
      exact h0 _ rfl u1 _ _ P1
    rw [if_pos g1] at h1 h0
    refine h1 _ rfl _ _ P2 ⟨?_, fun z => ?_, fun z => by omega, fun z => by omega, fun z => by omega, fun z => by omega⟩
    all_goals simp [upF]
