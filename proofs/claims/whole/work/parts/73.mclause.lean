/-! the model: which clause -/
theorem c_clauseW {d : Nat} {X : Tx} {t : Tok} {T : Told} {z p : Int} {u0 u : aS} {Q : aQ} (hV : vTx X) (hP : mP u0 u X t T p)
    (k0 : wh X t = 0 → ∀ Q' : aQ, (∀ u', Q none u' → Q' none u') → wpm (d + 4) M_X8_toldHouse [vR 139, vI z] u Q')
    (k1 : wh X t = 1 → ∀ Q' : aQ, (∀ u', Q none u' → Q' none u') → wpm (d + 4) M_X8_toldTone [vR 139, vI z] u Q')
    (k2 : wh X t = 2 → ∀ Q' : aQ, (∀ u', Q none u' → Q' none u') → wpm (d + 4) M_X8_toldPut [vR 139, vI z] u Q')
    (k3 : wh X t = 3 → ∀ Q' : aQ, (∀ u', Q none u' → Q' none u') → wpm (d + 4) M_X8_toldFade [vR 139, vI z, vI 0] u Q')
    (k4 : wh X t = 4 → ∀ Q' : aQ, (∀ u', Q none u' → Q' none u') → wpm (d + 4) M_X8_toldFade [vR 139, vI z, vI 1] u Q')
    (k5 : wh X t = 5 → ∀ Q' : aQ, (∀ u', Q none u' → Q' none u') → wpm (d + 4) M_X8_toldShift [vR 139, vI z] u Q')
    (k6 : wh X t = 6 → ∀ Q' : aQ, (∀ u', Q none u' → Q' none u') → wpm (d + 4) M_X8_toldShut [vR 139, vI z] u Q')
    (k7 : wh X t = -1 → ∀ Q' : aQ, (∀ u', Q none u' → Q' none u') → wpm (d + 4) M_X8_faults [vR 139] u Q') : wpm (d + 5) M_X8_clause [vR 139, vI z] u Q := by
  obtain ⟨hS, hK, hT, ht, _⟩ := hP
  refine e_X8_clause rfl (run [] 60 ?_)
  refine c_isWord (w := w_tx 1) hS hK hV hT ht rfl (by omega) (fun g => ?_) (fun g1 => ?_)
  · refine k0 ?_ _ (fun u' q => q)
    unfold wh
    rw [g]
    rfl
  refine c_isWord (w := w_tx 2) hS hK hV hT ht rfl (by omega) (fun g => ?_) (fun g2 => ?_)
  · refine k1 ?_ _ (fun u' q => q)
    unfold wh
    rw [g1, g]
    rfl
  refine c_isWord (w := w_tx 3) hS hK hV hT ht rfl (by omega) (fun g => ?_) (fun g3 => ?_)
  · refine k2 ?_ _ (fun u' q => q)
    unfold wh
    rw [g1, g2, g]
    rfl
  refine c_isWord (w := w_tx 4) hS hK hV hT ht rfl (by omega) (fun g => ?_) (fun g4 => ?_)
  · refine k3 ?_ _ (fun u' q => q)
    unfold wh
    rw [g1, g2, g3, g]
    rfl
  refine c_isWord (w := w_tx 5) hS hK hV hT ht rfl (by omega) (fun g => ?_) (fun g5 => ?_)
  · refine k4 ?_ _ (fun u' q => q)
    unfold wh
    rw [g1, g2, g3, g4, g]
    rfl
  refine c_isWord (w := w_tx 6) hS hK hV hT ht rfl (by omega) (fun g => ?_) (fun g6 => ?_)
  · refine k5 ?_ _ (fun u' q => q)
    unfold wh
    rw [g1, g2, g3, g4, g5, g]
    rfl
  refine c_isWord (w := w_tx 7) hS hK hV hT ht rfl (by omega) (fun g => ?_) (fun g7 => ?_)
  · refine k6 ?_ _ (fun u' q => q)
    unfold wh
    rw [g1, g2, g3, g4, g5, g6, g]
    rfl
  · refine k7 ?_ _ (fun u' q => q)
    unfold wh
    rw [g1, g2, g3, g4, g5, g6, g7]
    rfl
theorem pCl_0 {X : Tx} {t : Tok} {T : Told} (w : wh X t = 0) : pCl X t T = .inr (nt X t) := by
  unfold pCl
  rw [w]
  simp
theorem pCl_1 {X : Tx} {t : Tok} {T : Told} (w : wh X t = 1) (h6 : ¬ 6 ≤ T.1) : pCl X t T = pTone X (nt X t) := by
  unfold pCl
  rw [w]
  simp [h6]
theorem pCl_6 {X : Tx} {t : Tok} {T : Told} (w : wh X t = 1) (h6 : 6 ≤ T.1) : pCl X t T = .inl t := by
  unfold pCl
  rw [if_pos (Or.inr ⟨w, h6⟩)]
theorem pCl_2 {X : Tx} {t : Tok} {T : Told} (w : wh X t = 2) : pCl X t T = pPut X (nt X t) T := by
  unfold pCl
  rw [w]
  simp
theorem pCl_3 {X : Tx} {t : Tok} {T : Told} (w : wh X t = 3) : pCl X t T = pFade X (nt X t) := by
  unfold pCl
  rw [w]
  simp
theorem pCl_4 {X : Tx} {t : Tok} {T : Told} (w : wh X t = 4) : pCl X t T = pGain X (nt X t) := by
  unfold pCl
  rw [w]
  simp
theorem pCl_5 {X : Tx} {t : Tok} {T : Told} (w : wh X t = 5) : pCl X t T = pSh X (nt X t) := by
  unfold pCl
  rw [w]
  simp
theorem pCl_7 {X : Tx} {t : Tok} {T : Told} (w : wh X t = 6) : pCl X t T = pShut X (nt X t) := by
  unfold pCl
  rw [w]
  simp
theorem pCl_n {X : Tx} {t : Tok} {T : Told} (w : wh X t = -1) : pCl X t T = .inl t := by
  unfold pCl
  rw [if_pos (Or.inl w)]
theorem tCl_0 {X : Tx} {t : Tok} {T : Told} (w : wh X t = 0) : tCl X t T = (0, T.2) := by
  unfold tCl
  rw [if_pos w]
theorem tCl_1 {X : Tx} {t : Tok} {T : Told} (w : wh X t = 1) : tCl X t T = (T.1 + 1, upF T.2 T.1 (vl X (nt X (nt X (nt X t))))) := by
  unfold tCl
  rw [if_neg (by omega), if_pos w]
theorem tCl_2 {X : Tx} {t : Tok} {T : Told} (w0 : ¬ wh X t = 0) (w1 : ¬ wh X t = 1) : tCl X t T = T := by
  unfold tCl
  rw [if_neg w0, if_neg w1]
/-- a clause is read, nothing is done -/
theorem c_clause0 {d : Nat} {X : Tx} {t : Tok} {T : Told} {u0 u : aS} {Q : aQ} (hV : vTx X) (hP : mP u0 u X t T (-1)) (hT : vTd T) (h1 : ∀ t', pCl X t T = .inr t' → ∀ u', mP u0 u' X t' (tCl X t T) (-1) → Q none u') (h0 : ∀ t', pCl X t T = .inl t' → ∀ u', mP u0 u' X t' T t'.1 → Q none u') : wpm (d + 5) M_X8_clause [vR 139, vI 0] u Q := by
  refine c_clauseW hV hP (fun w Q' q => ?_) (fun w Q' q => ?_) (fun w Q' q => ?_) (fun w Q' q => ?_) (fun w Q' q => ?_) (fun w Q' q => ?_) (fun w Q' q => ?_) (fun w Q' q => ?_)
  · rw [tCl_0 w] at h1
    refine c_toldHouse hV hP (fun u' m => ?_)
    refine run [] 60 ?_
    exact q u' (h1 _ (pCl_0 w) u' m)
  · rw [tCl_1 w] at h1
    refine c_toldTone hV hP hT (fun h6 t' g u' m => ?_) (fun t' g u' m => ?_) (Or.inl rfl)
    · refine run [] 60 ?_
      exact q u' (h1 t' ((pCl_1 w h6).trans g) u' m)
    · rcases g with ⟨h6, e⟩ | ⟨h6, e⟩
      · subst e
        exact q u' (h0 t' (pCl_6 w h6) u' m)
      · exact q u' (h0 t' ((pCl_1 w h6).trans e) u' m)
  · rw [tCl_2 (by omega) (by omega)] at h1
    refine c_toldPut hV hP hT (fun t' g u' m => ?_) (fun t' g u' m => ?_) (Or.inl rfl)
    · refine run [] 60 ?_
      exact q u' (h1 t' ((pCl_2 w).trans g) u' m)
    · exact q u' (h0 t' ((pCl_2 w).trans g) u' m)
  · rw [tCl_2 (by omega) (by omega)] at h1
    refine c_toldFade hV hP (fun t' g u' m => ?_) (fun t' g u' m => ?_) (Or.inl rfl)
    · refine run [] 60 ?_
      exact q u' (h1 t' ((pCl_3 w).trans g) u' m)
    · exact q u' (h0 t' ((pCl_3 w).trans g) u' m)
  · rw [tCl_2 (by omega) (by omega)] at h1
    refine c_toldGain hV hP (fun t' g u' m => ?_) (fun t' g u' m => ?_) (Or.inl rfl)
    · refine run [] 60 ?_
      exact q u' (h1 t' ((pCl_4 w).trans g) u' m)
    · exact q u' (h0 t' ((pCl_4 w).trans g) u' m)
  · rw [tCl_2 (by omega) (by omega)] at h1
    refine c_toldShift hV hP (fun t' g u' b n m _ _ => ?_) (fun t' g u' m => ?_) (Or.inl rfl)
    · refine run [] 60 ?_
      exact q u' (h1 t' ((pCl_5 w).trans g) u' m)
    · exact q u' (h0 t' ((pCl_5 w).trans g) u' m)
  · rw [tCl_2 (by omega) (by omega)] at h1
    refine c_toldShut hV hP (fun t' g u' m => ?_) (fun t' g u' m => ?_) (Or.inl rfl)
    · refine run [] 60 ?_
      exact q u' (h1 t' ((pCl_7 w).trans g) u' m)
    · exact q u' (h0 t' ((pCl_7 w).trans g) u' m)
  · refine c_faultP hP (fun u' m => ?_)
    rw [flt_n (by omega)] at m
    exact q u' (h0 t (pCl_n w) u' m)
