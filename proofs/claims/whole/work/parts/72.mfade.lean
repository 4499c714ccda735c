/-! the model reads fades, gains, shifts, shuts, houses: up to where it does them -/
theorem mP.b {u0 u : aS} {X : Tx} {t : Tok} {T : Told} {p : Int} (h : mP u0 u X t T p) : 0 ≤ t.1 := h.2.2.1.1.1
theorem c_toldFade {d : Nat} {X : Tx} {t : Tok} {T : Told} {z : Int} {u0 u : aS} {Q : aQ} (hV : vTx X) (hP : mP u0 u X t T (-1)) (h1 : ∀ t', pFade X (nt X t) = .inr t' → ∀ u', mP u0 u' X t' T (-1) → wp (wpm (d + 3)) cd_X8_toldFade Q 55 [vR 139, vI z, vI 0, vI (vl X (nt X t)), vI (vl X (nt X (nt X t))), vI (vl X (nt X (nt X (nt X t)))), vI (vl X (nt X (nt X (nt X (nt X t)))))] [] u' 0 0) (h0 : ∀ t', pFade X (nt X t) = .inl t' → ∀ u', mP u0 u' X t' T t'.1 → Q none u') (hz : z = 0 ∨ ∃ t', pFade X (nt X t) = .inr t') : wpm (d + 4) M_X8_toldFade [vR 139, vI z, vI 0] u Q := by
  have fin : ∀ t' (a b c e : Int) u', pFade X (nt X t) = .inl t' → mP u0 u' X t' T t'.1 → wp (wpm (d + 3)) cd_X8_toldFade Q 55 [vR 139, vI z, vI 0, vI a, vI b, vI c, vI e] [] u' 0 0 := by
    intro t' a b c e u' g m
    have z0 : z = 0 := by
      rcases hz with e | ⟨w, e⟩
      · exact e
      · rw [g] at e
        cases e
    subst z0
    refine run [] 60 ?_
    exact h0 t' g u' m
  refine e_X8_toldFade rfl (run [(55, [])] 60 ?_)
  refine c_nextP hV hP (fun u1 P1 => ?_)
  refine c_numG hV P1 (fun g1 u2 P2 => ?_) (fun g1 u2 P2 => ?_)
  rotate_left
  · refine c_numF hV P2 P2.b (fun u3 P3 => ?_)
    refine c_numF hV P3 P3.b (fun u4 P4 => ?_)
    refine c_numF hV P4 P4.b (fun u5 P5 => ?_)
    refine fin _ _ _ _ _ u5 ?_ P5
    unfold pFade
    rw [if_neg g1]
  refine c_numG hV P2 (fun g2 u3 P3 => ?_) (fun g2 u3 P3 => ?_)
  rotate_left
  · refine c_numF hV P3 P3.b (fun u4 P4 => ?_)
    refine c_numF hV P4 P4.b (fun u5 P5 => ?_)
    refine fin _ _ _ _ _ u5 ?_ P5
    unfold pFade
    rw [if_pos g1, if_neg g2]
  refine c_numG hV P3 (fun g3 u4 P4 => ?_) (fun g3 u4 P4 => ?_)
  rotate_left
  · refine c_numF hV P4 P4.b (fun u5 P5 => ?_)
    refine fin _ _ _ _ _ u5 ?_ P5
    unfold pFade
    rw [if_pos g1, if_pos g2, if_neg g3]
  refine c_numG hV P4 (fun g4 u5 P5 => ?_) (fun g4 u5 P5 => ?_)
  rotate_left
  · refine fin _ _ _ _ _ u5 ?_ P5
    unfold pFade
    rw [if_pos g1, if_pos g2, if_pos g3, if_neg g4]
  refine h1 _ ?_ u5 P5
  unfold pFade
  rw [if_pos g1, if_pos g2, if_pos g3, if_pos g4]
theorem c_toldGain {d : Nat} {X : Tx} {t : Tok} {T : Told} {z : Int} {u0 u : aS} {Q : aQ} (hV : vTx X) (hP : mP u0 u X t T (-1)) (h1 : ∀ t', pGain X (nt X t) = .inr t' → ∀ u', mP u0 u' X t' T (-1) → wp (wpm (d + 3)) cd_X8_toldFade Q 55 [vR 139, vI z, vI 1, vI (vl X (nt X t)), vI (vl X (nt X (nt X t))), vI (vl X (nt X (nt X (nt X t)))), vI 0] [] u' 0 0) (h0 : ∀ t', pGain X (nt X t) = .inl t' → ∀ u', mP u0 u' X t' T t'.1 → Q none u') (hz : z = 0 ∨ ∃ t', pGain X (nt X t) = .inr t') : wpm (d + 4) M_X8_toldFade [vR 139, vI z, vI 1] u Q := by
  have fin : ∀ t' (a b c e : Int) u', pGain X (nt X t) = .inl t' → mP u0 u' X t' T t'.1 → wp (wpm (d + 3)) cd_X8_toldFade Q 55 [vR 139, vI z, vI 1, vI a, vI b, vI c, vI e] [] u' 0 0 := by
    intro t' a b c e u' g m
    have z0 : z = 0 := by
      rcases hz with e | ⟨w, e⟩
      · exact e
      · rw [g] at e
        cases e
    subst z0
    refine run [] 60 ?_
    exact h0 t' g u' m
  refine e_X8_toldFade rfl (run [(55, [])] 60 ?_)
  refine c_nextP hV hP (fun u1 P1 => ?_)
  refine c_numG hV P1 (fun g1 u2 P2 => ?_) (fun g1 u2 P2 => ?_)
  rotate_left
  · refine c_numF hV P2 P2.b (fun u3 P3 => ?_)
    refine c_numF hV P3 P3.b (fun u4 P4 => ?_)
    refine fin _ _ _ _ _ u4 ?_ P4
    unfold pGain
    rw [if_neg g1]
  refine c_numG hV P2 (fun g2 u3 P3 => ?_) (fun g2 u3 P3 => ?_)
  rotate_left
  · refine c_numF hV P3 P3.b (fun u4 P4 => ?_)
    refine fin _ _ _ _ _ u4 ?_ P4
    unfold pGain
    rw [if_pos g1, if_neg g2]
  refine c_numG hV P3 (fun g3 u4 P4 => ?_) (fun g3 u4 P4 => ?_)
  rotate_left
  · refine fin _ _ _ _ _ u4 ?_ P4
    unfold pGain
    rw [if_pos g1, if_pos g2, if_neg g3]
  refine h1 _ ?_ u4 P4
  unfold pGain
  rw [if_pos g1, if_pos g2, if_pos g3]
theorem c_toldShut {d : Nat} {X : Tx} {t : Tok} {T : Told} {z : Int} {u0 u : aS} {Q : aQ} (hV : vTx X) (hP : mP u0 u X t T (-1)) (h1 : ∀ t', pShut X (nt X t) = .inr t' → ∀ u', mP u0 u' X t' T (-1) → wp (wpm (d + 3)) cd_X8_toldShut Q 11 [vR 139, vI z, vI (vl X (nt X t))] [] u' 0 0) (h0 : ∀ t', pShut X (nt X t) = .inl t' → ∀ u', mP u0 u' X t' T t'.1 → Q none u') (hz : z = 0 ∨ ∃ t', pShut X (nt X t) = .inr t') : wpm (d + 4) M_X8_toldShut [vR 139, vI z] u Q := by
  have fin : ∀ t' (a : Int) u', pShut X (nt X t) = .inl t' → mP u0 u' X t' T t'.1 → wp (wpm (d + 3)) cd_X8_toldShut Q 11 [vR 139, vI z, vI a] [] u' 0 0 := by
    intro t' a u' g m
    have z0 : z = 0 := by
      rcases hz with e | ⟨w, e⟩
      · exact e
      · rw [g] at e
        cases e
    subst z0
    refine run [] 60 ?_
    exact h0 t' g u' m
  refine e_X8_toldShut rfl (run [(11, [])] 60 ?_)
  refine c_nextP hV hP (fun u1 P1 => ?_)
  refine c_numG hV P1 (fun g1 u2 P2 => ?_) (fun g1 u2 P2 => ?_)
  rotate_left
  · refine fin _ _ u2 ?_ P2
    unfold pShut
    rw [if_neg g1]
  refine h1 _ ?_ u2 P2
  unfold pShut
  rw [if_pos g1]
theorem mP_z {u0 u : aS} {X : Tx} {t : Tok} {T : Told} {p v : Int} (h : mP u0 u X t T p) : mP u0 (sI u 139 20 v) X t (v, T.2) p := by
  obtain ⟨p1, p2, p3, p4, p5, p6, p7, p8⟩ := h
  have n9 : ∀ i, ¬ i = 20 → hI (sI u 139 20 v) 139 i = hI u 139 i := fun i hi => by rw [hI_sI, if_neg (by omega)]
  have f0 : fW u (sI u 139 20 v) := ⟨fun a i ha hb => by rw [hI_sI, if_neg (by omega)], fun _ _ => ⟨rfl, rfl⟩, rfl⟩
  refine ⟨fW_S f0 p1, fW_X f0 p2, p3, ⟨(n9 14 (by omega)).trans p4.1, (n9 15 (by omega)).trans p4.2.1, (n9 16 (by omega)).trans p4.2.2.1, (n9 17 (by omega)).trans p4.2.2.2⟩, ?_, fun s s0 s1 => ?_, (n9 18 (by omega)).trans p7, fW_tr p8 f0⟩
  · rw [hI_sI, if_pos ⟨rfl, rfl⟩]
  · rw [hI_sI, if_neg (by omega)]
    exact p6 s s0 s1
theorem c_toldHouse {d : Nat} {X : Tx} {t : Tok} {T : Told} {z : Int} {u0 u : aS} {Q : aQ} (hV : vTx X) (hP : mP u0 u X t T (-1)) (h1 : ∀ u', mP u0 u' X (nt X t) (0, T.2) (-1) → wp (wpm (d + 3)) cd_X8_toldHouse Q 9 [vR 139, vI z, vU] [] u' 0 0) : wpm (d + 4) M_X8_toldHouse [vR 139, vI z] u Q := by
  refine e_X8_toldHouse rfl (run [(9, [])] 60 ?_)
  refine c_nextP hV hP (fun u1 P1 => ?_)
  exact h1 _ (mP_z P1)
theorem c_toldShift {d : Nat} {X : Tx} {t : Tok} {T : Told} {z : Int} {u0 u : aS} {Q : aQ} (hV : vTx X) (hP : mP u0 u X t T (-1)) (h1 : ∀ t', pSh X (nt X t) = .inr t' → ∀ u' b n, mP u0 u' X t' T (-1) → (0 ≤ n ∧ n ≤ 16) → (b = 1 ∧ vShift X (nt X (nt X t)) = -n ∨ b = 0 ∧ vShift X (nt X (nt X t)) = n) → wp (wpm (d + 3)) cd_X8_toldShift Q 58 [vR 139, vI z, vI (vl X (nt X t)), vI b, vI n] [] u' 0 0) (h0 : ∀ t', pSh X (nt X t) = .inl t' → ∀ u', mP u0 u' X t' T t'.1 → Q none u') (hz : z = 0 ∨ ∃ t', pSh X (nt X t) = .inr t') : wpm (d + 4) M_X8_toldShift [vR 139, vI z] u Q := by
  have fin : ∀ t' (a b c : Int) u', pSh X (nt X t) = .inl t' → mP u0 u' X t' T t'.1 → wp (wpm (d + 3)) cd_X8_toldShift Q 58 [vR 139, vI z, vI a, vI b, vI c] [] u' 0 0 := by
    intro t' a b c u' g m
    have z0 : z = 0 := by
      rcases hz with e | ⟨w, e⟩
      · exact e
      · rw [g] at e
        cases e
    subst z0
    refine run [] 60 ?_
    exact h0 t' g u' m
  refine e_X8_toldShift rfl (run [(41, []), (58, [])] 60 ?_)
  refine c_nextP hV hP (fun u1 P1 => ?_)
  refine c_numG hV P1 (fun g1 u2 P2 => ?_) (fun g1 u2 P2 => ?_)
  rotate_left
  · have a18 := P2.place
    have b0 := P2.b
    refine z_bq (fun hx => by omega) (fun hx => ?_)
    refine run [(58, [])] 60 ?_
    refine c_numF hV P2 b0 (fun u3 P3 => ?_)
    refine fin _ _ _ _ u3 ?_ P3
    unfold pSh
    rw [if_neg g1]
  have key : ∀ b : Int, (b = 1 ∧ lt X (nt X (nt X t)).1 = 45 ∨ b = 0 ∧ ¬ lt X (nt X (nt X t)).1 = 45) → wp (wpm (d + 3)) cd_X8_toldShift Q 41 [vR 139, vI z, vI (vl X (nt X t)), vI b, vU] [] u2 0 0 := by
    intro b hb
    rcases hb with ⟨e, hl⟩ | ⟨e, hl⟩
    · subst e
      refine run [(58, [])] 60 ?_
      refine c_nextP hV P2 (fun u3 P3 => ?_)
      refine c_numG hV P3 (fun g2 u4 P4 => ?_) (fun g2 u4 P4 => ?_)
      · have b2 : 0 ≤ vl X (nt X (nt X (nt X t))) ∧ vl X (nt X (nt X (nt X t))) ≤ 16 := g2.2
        refine h1 _ ?_ u4 _ _ P4 b2 (Or.inl ⟨rfl, ?_⟩)
        · unfold pSh pShift
          rw [if_pos g1, if_pos hl, if_pos g2]
        · unfold vShift
          rw [if_pos hl]
      · refine fin _ _ _ _ u4 ?_ P4
        unfold pSh pShift
        rw [if_pos g1, if_pos hl, if_neg g2]
    · subst e
      refine run [(58, [])] 60 ?_
      refine c_numG hV P2 (fun g2 u4 P4 => ?_) (fun g2 u4 P4 => ?_)
      · have b2 : 0 ≤ vl X (nt X (nt X t)) ∧ vl X (nt X (nt X t)) ≤ 16 := g2.2
        refine h1 _ ?_ u4 _ _ P4 b2 (Or.inr ⟨rfl, ?_⟩)
        · unfold pSh pShift
          rw [if_pos g1, if_neg hl, if_pos g2]
        · unfold vShift
          rw [if_neg hl]
      · refine fin _ _ _ _ u4 ?_ P4
        unfold pSh pShift
        rw [if_pos g1, if_neg hl, if_neg g2]
  have a18 := P2.place
  have b0 := P2.b
  have a16 : hI u2 139 16 = mkd (nt X (nt X t)).2.1 := P2.2.2.2.1.2.2.1
  have a17 : hI u2 139 17 = mvl X (nt X (nt X t)) := P2.2.2.2.1.2.2.2
  have ak := P2.2.2.1.2.1
  have zk := kd_l hV b0
  have k3 : hI u2 139 16 = 3 ↔ kdL X (nt X (nt X t)).1 = 3 := by
    rw [a16, ak]
    unfold mkd
    split <;> omega
  have v3 : kdL X (nt X (nt X t)).1 = 3 → hI u2 139 17 = lt X (nt X (nt X t)).1 := by
    intro e
    rw [a17]
    unfold mvl
    rw [ak, e]
    rfl
  clear a16 a17
  refine z_bq (fun hx => ?_) (fun hx => by omega)
  refine z_bq (fun hy => ?_) (fun hy => ?_)
  · have v4 := v3 (k3.1 hy)
    refine z_bq (fun hw => ?_) (fun hw => ?_)
    · exact key 1 (Or.inl ⟨rfl, by omega⟩)
    · exact key 0 (Or.inr ⟨rfl, by omega⟩)
  · refine key 0 (Or.inr ⟨rfl, fun hl => hy (k3.2 ?_)⟩)
    omega
