/-! the model reads a put: up to where it does it -/
theorem c_toldPut {d : Nat} {X : Tx} {t : Tok} {T : Told} {z : Int} {u0 u : aS} {Q : aQ} (hV : vTx X) (hP : mP u0 u X t T (-1)) (hT : vTd T) (h1 : ∀ t', pPut X (nt X t) T = .inr t' → ∀ u', mP u0 u' X t' T (-1) → wp (wpm (d + 3)) cd_X8_toldPut Q 67 [vR 139, vI z, vI (vl X (nt X t)), vI (vl X (nt X (nt X t))), vI (vl X (nt X (nt X (nt X t)))), vI (vl X (nt X (nt X (nt X (nt X t))))), vI (vl X (nt X (nt X (nt X (nt X (nt X t))))))] [] u' 0 0) (h0 : ∀ t', pPut X (nt X t) T = .inl t' → ∀ u', mP u0 u' X t' T t'.1 → Q none u') (hz : z = 0 ∨ ∃ t', pPut X (nt X t) T = .inr t') : wpm (d + 4) M_X8_toldPut [vR 139, vI z] u Q := by
  have hT1 := hT.1
  have fin : ∀ t' (a b c e f : Int) u', pPut X (nt X t) T = .inl t' → mP u0 u' X t' T t'.1 → wp (wpm (d + 3)) cd_X8_toldPut Q 67 [vR 139, vI z, vI a, vI b, vI c, vI e, vI f] [] u' 0 0 := by
    intro t' a b c e f u' g m
    have z0 : z = 0 := by
      rcases hz with e | ⟨w, e⟩
      · exact e
      · rw [g] at e
        cases e
    subst z0
    refine run [] 60 ?_
    exact h0 t' g u' m
  have f54 : ∀ t' (a b c e : Int) u', pPut X (nt X t) T = .inl t' → mP u0 u' X t' T t'.1 → 0 ≤ e → e ≤ 64 → wp (wpm (d + 3)) cd_X8_toldPut Q 54 [vR 139, vI z, vI a, vI b, vI c, vI e, vU] [] u' 0 0 := by
    intro t' a b c e u' g m e0 e1
    refine run [(67, [])] 60 ?_
    repeat first
      | refine z_gq (by first | omega | (simp [hI_sI, hI_sF, hI_sR, hI_nw, hI_ff, hI_fl, hI_cp]; try omega)) ?_
      | refine z_iq rfl (by first | omega | (simp [hI_sI, hI_sF, hI_sR, hI_nw, hI_ff, hI_fl, hI_cp]; try omega)) (by first | omega | (simp [hI_sI, hI_sF, hI_sR, hI_nw, hI_ff, hI_fl, hI_cp]; try omega)) ?_
    refine c_numF hV m m.2.2.1.1.1 (fun u3 P3 => ?_)
    exact fin t' _ _ _ _ _ u3 g P3
  have f38 : ∀ t' (a b c : Int) u', pPut X (nt X t) T = .inl t' → mP u0 u' X t' T t'.1 → (0 ≤ b ∧ b < 6) → 0 ≤ c → c ≤ 64 → wp (wpm (d + 3)) cd_X8_toldPut Q 38 [vR 139, vI z, vI a, vI b, vI c, vU, vU] [] u' 0 0 := by
    intro t' a b c u' g m b0 c0 c1
    have hS := m.1
    have s2 := m.size b0.1 b0.2
    have v2 := hT.2 b b0.1 b0.2
    refine run [(54, [])] 60 ?_
    repeat first
      | refine z_gq (by first | omega | (simp [hI_sI, hI_sF, hI_sR, hI_nw, hI_ff, hI_fl, hI_cp]; try omega)) ?_
      | refine z_iq rfl (by first | omega | (simp [hI_sI, hI_sF, hI_sR, hI_nw, hI_ff, hI_fl, hI_cp]; try omega)) (by first | omega | (simp [hI_sI, hI_sF, hI_sR, hI_nw, hI_ff, hI_fl, hI_cp]; try omega)) ?_
      | refine z_dq (mS.toldSizes hS) ?_
    refine c_numF hV m m.2.2.1.1.1 (fun u3 P3 => ?_)
    exact f54 t' _ _ _ _ u3 g P3 (by omega) (by omega)
  have f23 : ∀ t' (a b : Int) u', pPut X (nt X t) T = .inl t' → mP u0 u' X t' T t'.1 → (0 ≤ b ∧ b < 6) → wp (wpm (d + 3)) cd_X8_toldPut Q 23 [vR 139, vI z, vI a, vI b, vU, vU, vU] [] u' 0 0 := by
    intro t' a b u' g m b0
    have hS := m.1
    have s2 := m.size b0.1 b0.2
    have v2 := hT.2 b b0.1 b0.2
    refine run [(38, [])] 60 ?_
    repeat first
      | refine z_gq (by first | omega | (simp [hI_sI, hI_sF, hI_sR, hI_nw, hI_ff, hI_fl, hI_cp]; try omega)) ?_
      | refine z_iq rfl (by first | omega | (simp [hI_sI, hI_sF, hI_sR, hI_nw, hI_ff, hI_fl, hI_cp]; try omega)) (by first | omega | (simp [hI_sI, hI_sF, hI_sR, hI_nw, hI_ff, hI_fl, hI_cp]; try omega)) ?_
      | refine z_dq (mS.toldSizes hS) ?_
    refine c_numF hV m m.2.2.1.1.1 (fun u3 P3 => ?_)
    exact f38 t' _ _ _ u3 g P3 b0 (by omega) (by omega)
  refine e_X8_toldPut rfl (run [(23, []), (38, []), (54, []), (67, [])] 60 ?_)
  refine c_nextP hV hP (fun u1 P1 => ?_)
  refine c_numG hV P1 (fun g1 u2 P2 => ?_) (fun g1 u2 P2 => ?_)
  rotate_left
  · have a20 := P2.told
    repeat first
      | refine z_gq (by first | omega | (simp [hI_sI, hI_sF, hI_sR, hI_nw, hI_ff, hI_fl, hI_cp]; try omega)) ?_
      | refine z_iq rfl (by first | omega | (simp [hI_sI, hI_sF, hI_sR, hI_nw, hI_ff, hI_fl, hI_cp]; try omega)) (by first | omega | (simp [hI_sI, hI_sF, hI_sR, hI_nw, hI_ff, hI_fl, hI_cp]; try omega)) ?_
    refine c_numF hV P2 P2.2.2.1.1.1 (fun u3 P3 => ?_)
    refine f23 _ _ _ u3 ?_ P3 (by omega)
    unfold pPut
    rw [if_neg g1]
  have a20 := P2.told
  repeat first
    | refine z_gq (by first | omega | (simp [hI_sI, hI_sF, hI_sR, hI_nw, hI_ff, hI_fl, hI_cp]; try omega)) ?_
    | refine z_iq rfl (by first | omega | (simp [hI_sI, hI_sF, hI_sR, hI_nw, hI_ff, hI_fl, hI_cp]; try omega)) (by first | omega | (simp [hI_sI, hI_sF, hI_sR, hI_nw, hI_ff, hI_fl, hI_cp]; try omega)) ?_
  rw [a20]
  refine c_numG hV P2 (fun g2 u3 P3 => ?_) (fun g2 u3 P3 => ?_)
  rotate_left
  · refine f23 _ _ _ u3 ?_ P3 (by omega)
    unfold pPut
    rw [if_pos g1, if_neg g2]
  have b2 : 0 ≤ vl X (nt X (nt X t)) ∧ vl X (nt X (nt X t)) ≤ T.1 - 1 := g2.2
  have s3 := P3.size (s := vl X (nt X (nt X t))) (by omega) (by omega)
  have v3 := hT.2 (vl X (nt X (nt X t))) (by omega) (by omega)
  have S3 := P3.1
  refine run [(38, []), (54, []), (67, [])] 60 ?_
  have hS := S3
  repeat first
    | refine z_gq (by first | omega | (simp [hI_sI, hI_sF, hI_sR, hI_nw, hI_ff, hI_fl, hI_cp]; try omega)) ?_
    | refine z_iq rfl (by first | omega | (simp [hI_sI, hI_sF, hI_sR, hI_nw, hI_ff, hI_fl, hI_cp]; try omega)) (by first | omega | (simp [hI_sI, hI_sF, hI_sR, hI_nw, hI_ff, hI_fl, hI_cp]; try omega)) ?_
    | refine z_dq (mS.toldSizes hS) ?_
  rw [s3]
  refine c_numG hV P3 (fun g3 u4 P4 => ?_) (fun g3 u4 P4 => ?_)
  rotate_left
  · refine f38 _ _ _ _ u4 ?_ P4 (by omega) (by omega) (by omega)
    unfold pPut
    rw [if_pos g1, if_pos g2, if_neg g3]
  have b3 : 0 ≤ vl X (nt X (nt X (nt X t))) ∧ vl X (nt X (nt X (nt X t))) ≤ T.2 (vl X (nt X (nt X t))) - 1 := g3.2
  have s4 := P4.size (s := vl X (nt X (nt X t))) (by omega) (by omega)
  clear hS
  have hS := P4.1
  refine run [(54, []), (67, [])] 60 ?_
  repeat first
    | refine z_gq (by first | omega | (simp [hI_sI, hI_sF, hI_sR, hI_nw, hI_ff, hI_fl, hI_cp]; try omega)) ?_
    | refine z_iq rfl (by first | omega | (simp [hI_sI, hI_sF, hI_sR, hI_nw, hI_ff, hI_fl, hI_cp]; try omega)) (by first | omega | (simp [hI_sI, hI_sF, hI_sR, hI_nw, hI_ff, hI_fl, hI_cp]; try omega)) ?_
    | refine z_dq (mS.toldSizes hS) ?_
  rw [s4]
  refine c_numG hV P4 (fun g4 u5 P5 => ?_) (fun g4 u5 P5 => ?_)
  rotate_left
  · refine f54 _ _ _ _ _ u5 ?_ P5 (by omega) (by omega)
    unfold pPut
    rw [if_pos g1, if_pos g2, if_pos g3, if_neg g4]
  have b4 : 1 ≤ vl X (nt X (nt X (nt X (nt X t)))) ∧ vl X (nt X (nt X (nt X (nt X t)))) ≤ T.2 (vl X (nt X (nt X t))) - vl X (nt X (nt X (nt X t))) := g4.2
  refine run [(67, [])] 60 ?_
  repeat first
    | refine z_gq (by first | omega | (simp [hI_sI, hI_sF, hI_sR, hI_nw, hI_ff, hI_fl, hI_cp]; try omega)) ?_
    | refine z_iq rfl (by first | omega | (simp [hI_sI, hI_sF, hI_sR, hI_nw, hI_ff, hI_fl, hI_cp]; try omega)) (by first | omega | (simp [hI_sI, hI_sF, hI_sR, hI_nw, hI_ff, hI_fl, hI_cp]; try omega)) ?_
  refine c_numG hV P5 (fun g5 u6 P6 => ?_) (fun g5 u6 P6 => ?_)
  rotate_left
  · refine fin _ _ _ _ _ _ u6 ?_ P6
    unfold pPut
    rw [if_pos g1, if_pos g2, if_pos g3, if_pos g4, if_neg g5]
  refine h1 _ ?_ u6 P6
  unfold pPut
  rw [if_pos g1, if_pos g2, if_pos g3, if_pos g4, if_pos g5]
