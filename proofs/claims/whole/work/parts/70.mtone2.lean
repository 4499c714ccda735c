/-! the model reads a tone: up to where it does it -/
theorem c_toldTone {d : Nat} {X : Tx} {t : Tok} {T : Told} {z : Int} {u0 u : aS} {Q : aQ} (hV : vTx X) (hP : mP u0 u X t T (-1)) (hT : vTd T) (h1 : ¬ 6 ≤ T.1 → ∀ t', pTone X (nt X t) = .inr t' → ∀ u', mP u0 u' X t' (T.1 + 1, upF T.2 T.1 (vl X (nt X (nt X (nt X t))))) (-1) → wp (wpm (d + 3)) cd_X8_toldTone Q 73 [vR 139, vI z, vI (vl X (nt X t)), vI (vl X (nt X (nt X t))), vI (vl X (nt X (nt X (nt X t))))] [] u' 0 0) (h0 : ∀ t', (6 ≤ T.1 ∧ t' = t ∨ ¬ 6 ≤ T.1 ∧ pTone X (nt X t) = .inl t') → ∀ u', mP u0 u' X t' T t'.1 → Q none u') (hz : z = 0 ∨ 6 ≤ T.1 ∨ ∃ t', pTone X (nt X t) = .inr t') : wpm (d + 4) M_X8_toldTone [vR 139, vI z] u Q := by
  have e20 := hP.told
  have hT1 := hT.1
  refine e_X8_toldTone rfl (run [(73, [])] 60 ?_)
  refine z_bq (fun hy => ?_) (fun hy => ?_)
  · refine c_faultP hP (fun u' m => ?_)
    rw [flt_n (by omega)] at m
    exact h0 t (Or.inl ⟨by omega, rfl⟩) u' m
  · have h6 : ¬ 6 ≤ T.1 := by omega
    refine c_nextP hV hP (fun u1 P1 => ?_)
    have fin : ∀ t' (a b n : Int) u', pTone X (nt X t) = .inl t' → mP u0 u' X t' T t'.1 → wp (wpm (d + 3)) cd_X8_toldTone Q 73 [vR 139, vI z, vI a, vI b, vI n] [] u' 0 0 := by
      intro t' a b n u' g m
      have z0 : z = 0 := by
        rcases hz with e | e | ⟨w, e⟩
        · exact e
        · exact absurd e h6
        · rw [g] at e
          cases e
      subst z0
      refine run [] 60 ?_
      exact h0 t' (Or.inr ⟨h6, g⟩) u' m
    have hp : ∀ t' : Tok, vTok X t' → 0 ≤ t'.1 := fun t' g => g.1.1
    refine c_numG hV P1 (fun g1 u2 P2 => ?_) (fun g1 u2 P2 => ?_)
    · refine c_numG hV P2 (fun g2 u3 P3 => ?_) (fun g2 u3 P3 => ?_)
      · refine c_numG hV P3 (fun g3 u4 P4 => ?_) (fun g3 u4 P4 => ?_)
        · have hS := P4.1
          have a20 := P4.told
          have a18 := P4.place
          refine z_bq (fun hx => ?_) (fun hx => by omega)
          repeat first
            | refine z_gq (by first | omega | (simp [hI_sI, hI_sF, hI_sR, hI_nw, hI_ff, hI_fl, hI_cp]; try omega)) ?_
            | refine z_iq rfl (by first | omega | (simp [hI_sI, hI_sF, hI_sR, hI_nw, hI_ff, hI_fl, hI_cp]; try omega)) (by first | omega | (simp [hI_sI, hI_sF, hI_sR, hI_nw, hI_ff, hI_fl, hI_cp]; try omega)) ?_
            | refine z_dq (mS.toldSizes hS) ?_
          refine h1 h6 _ ?_ _ (mP_o P4)
          unfold pTone
          rw [if_pos g1, if_pos g2, if_pos g3]
        · have a18 := P4.place
          have b := hp _ P4.2.2.1
          refine z_bq (fun hx => by omega) (fun hx => ?_)
          refine fin _ _ _ _ u4 ?_ P4
          unfold pTone
          rw [if_pos g1, if_pos g2, if_neg g3]
      · have b := hp _ P3.2.2.1
        refine c_numF hV P3 b (fun u4 P4 => ?_)
        have a18 := P4.place
        refine z_bq (fun hx => by omega) (fun hx => ?_)
        refine fin _ _ _ _ u4 ?_ P4
        unfold pTone
        rw [if_pos g1, if_neg g2]
    · have b := hp _ P2.2.2.1
      refine c_numF hV P2 b (fun u3 P3 => ?_)
      refine c_numF hV P3 b (fun u4 P4 => ?_)
      have a18 := P4.place
      refine z_bq (fun hx => by omega) (fun hx => ?_)
      refine fin _ _ _ _ u4 ?_ P4
      unfold pTone
      rw [if_neg g1]
