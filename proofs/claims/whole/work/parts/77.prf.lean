/-! what a clause does -/
def prf (X : Tx) (t : Tok) (K : So) (T : Tr) : So × Tr :=
  if wh X t = 0 then ((0, K.2), empT T)
  else if wh X t = 1 then (addS K (vl X (nt X (nt X (nt X t)))) (toneF (vl X (nt X t)) (vl X (nt X (nt X t)))), T)
  else if wh X t = 2 then (K, (oPut K T (vl X (nt X t)) (vl X (nt X (nt X t))) (vl X (nt X (nt X (nt X t)))) (vl X (nt X (nt X (nt X (nt X t))))) (vl X (nt X (nt X (nt X (nt X (nt X t))))))).2)
  else if wh X t = 3 then (K, (oFade T (vl X (nt X t)) (vl X (nt X (nt X t))) (vl X (nt X (nt X (nt X t)))) (vl X (nt X (nt X (nt X (nt X t)))))).2)
  else if wh X t = 4 then (K, (oGain T (vl X (nt X t)) (vl X (nt X (nt X t))) (vl X (nt X (nt X (nt X t))))).2)
  else if wh X t = 5 then (K, (oShift T (vl X (nt X t)) (vShift X (nt X (nt X t)))).2)
  else (K, shT T (vl X (nt X t)))
theorem prf_0 {X : Tx} {t : Tok} {K : So} {T : Tr} (w : wh X t = 0) : prf X t K T = ((0, K.2), empT T) := by
  unfold prf
  rw [if_pos w]
theorem prf_1 {X : Tx} {t : Tok} {K : So} {T : Tr} (w : wh X t = 1) : prf X t K T = (addS K (vl X (nt X (nt X (nt X t)))) (toneF (vl X (nt X t)) (vl X (nt X (nt X t)))), T) := by
  unfold prf
  rw [if_neg (by omega), if_pos w]
theorem prf_2 {X : Tx} {t : Tok} {K : So} {T : Tr} (w : wh X t = 2) : prf X t K T = (K, (oPut K T (vl X (nt X t)) (vl X (nt X (nt X t))) (vl X (nt X (nt X (nt X t)))) (vl X (nt X (nt X (nt X (nt X t))))) (vl X (nt X (nt X (nt X (nt X (nt X t))))))).2) := by
  unfold prf
  rw [if_neg (by omega), if_neg (by omega), if_pos w]
theorem prf_3 {X : Tx} {t : Tok} {K : So} {T : Tr} (w : wh X t = 3) : prf X t K T = (K, (oFade T (vl X (nt X t)) (vl X (nt X (nt X t))) (vl X (nt X (nt X (nt X t)))) (vl X (nt X (nt X (nt X (nt X t)))))).2) := by
  unfold prf
  rw [if_neg (by omega), if_neg (by omega), if_neg (by omega), if_pos w]
theorem prf_4 {X : Tx} {t : Tok} {K : So} {T : Tr} (w : wh X t = 4) : prf X t K T = (K, (oGain T (vl X (nt X t)) (vl X (nt X (nt X t))) (vl X (nt X (nt X (nt X t))))).2) := by
  unfold prf
  rw [if_neg (by omega), if_neg (by omega), if_neg (by omega), if_neg (by omega), if_pos w]
theorem prf_5 {X : Tx} {t : Tok} {K : So} {T : Tr} (w : wh X t = 5) : prf X t K T = (K, (oShift T (vl X (nt X t)) (vShift X (nt X (nt X t)))).2) := by
  unfold prf
  rw [if_neg (by omega), if_neg (by omega), if_neg (by omega), if_neg (by omega), if_neg (by omega), if_pos w]
theorem prf_6 {X : Tx} {t : Tok} {K : So} {T : Tr} (w : wh X t = 6) : prf X t K T = (K, shT T (vl X (nt X t))) := by
  unfold prf
  rw [if_neg (by omega), if_neg (by omega), if_neg (by omega), if_neg (by omega), if_neg (by omega), if_neg (by omega)]
/-! the numbers of good clauses -/
theorem pTone_b {X : Tx} {t t' : Tok} (h : pTone X t = .inr t') : (0 ≤ vl X t ∧ vl X t ≤ 200) ∧ (0 ≤ vl X (nt X t) ∧ vl X (nt X t) ≤ 200) ∧ 1 ≤ vl X (nt X (nt X t)) ∧ vl X (nt X (nt X t)) ≤ 64 := by
  unfold pTone at h
  by_cases g1 : isN X t 0 200
  · rw [if_pos g1] at h
    by_cases g2 : isN X (nt X t) 0 200
    · rw [if_pos g2] at h
      by_cases g3 : isN X (nt X (nt X t)) 1 64
      · exact ⟨g1.2, g2.2, g3.2⟩
      · rw [if_neg g3] at h
        cases h
    · rw [if_neg g2] at h
      cases h
  · rw [if_neg g1] at h
    cases h
theorem pPut_b {X : Tx} {t t' : Tok} {T : Told} (h : pPut X t T = .inr t') : (0 ≤ vl X t ∧ vl X t ≤ 3) ∧ (0 ≤ vl X (nt X t) ∧ vl X (nt X t) ≤ T.1 - 1) ∧ (0 ≤ vl X (nt X (nt X t)) ∧ vl X (nt X (nt X t)) ≤ T.2 (vl X (nt X t)) - 1) ∧ (1 ≤ vl X (nt X (nt X (nt X t))) ∧ vl X (nt X (nt X (nt X t))) ≤ T.2 (vl X (nt X t)) - vl X (nt X (nt X t))) ∧ 0 ≤ vl X (nt X (nt X (nt X (nt X t)))) ∧ vl X (nt X (nt X (nt X (nt X t)))) ≤ 128 - vl X (nt X (nt X (nt X t))) := by
  unfold pPut at h
  by_cases g1 : isN X t 0 3
  · rw [if_pos g1] at h
    by_cases g2 : isN X (nt X t) 0 (T.1 - 1)
    · rw [if_pos g2] at h
      by_cases g3 : isN X (nt X (nt X t)) 0 (T.2 (vl X (nt X t)) - 1)
      · rw [if_pos g3] at h
        by_cases g4 : isN X (nt X (nt X (nt X t))) 1 (T.2 (vl X (nt X t)) - vl X (nt X (nt X t)))
        · rw [if_pos g4] at h
          by_cases g5 : isN X (nt X (nt X (nt X (nt X t)))) 0 (128 - vl X (nt X (nt X (nt X t))))
          · exact ⟨g1.2, g2.2, g3.2, g4.2, g5.2⟩
          · rw [if_neg g5] at h
            cases h
        · rw [if_neg g4] at h
          cases h
      · rw [if_neg g3] at h
        cases h
    · rw [if_neg g2] at h
      cases h
  · rw [if_neg g1] at h
    cases h
theorem pFade_b {X : Tx} {t t' : Tok} (h : pFade X t = .inr t') : (0 ≤ vl X (nt X (nt X t)) ∧ vl X (nt X (nt X t)) ≤ 64) ∧ 0 ≤ vl X (nt X (nt X (nt X t))) ∧ vl X (nt X (nt X (nt X t))) ≤ 64 := by
  unfold pFade at h
  by_cases g1 : isN X t 0 3
  · rw [if_pos g1] at h
    by_cases g2 : isN X (nt X t) 0 11
    · rw [if_pos g2] at h
      by_cases g3 : isN X (nt X (nt X t)) 0 64
      · rw [if_pos g3] at h
        by_cases g4 : isN X (nt X (nt X (nt X t))) 0 64
        · exact ⟨g3.2, g4.2⟩
        · rw [if_neg g4] at h
          cases h
      · rw [if_neg g3] at h
        cases h
    · rw [if_neg g2] at h
      cases h
  · rw [if_neg g1] at h
    cases h
theorem pGain_b {X : Tx} {t t' : Tok} (h : pGain X t = .inr t') : 0 ≤ vl X (nt X (nt X t)) ∧ vl X (nt X (nt X t)) ≤ 16 := by
  unfold pGain at h
  by_cases g1 : isN X t 0 3
  · rw [if_pos g1] at h
    by_cases g2 : isN X (nt X t) 0 11
    · rw [if_pos g2] at h
      by_cases g3 : isN X (nt X (nt X t)) 0 16
      · exact g3.2
      · rw [if_neg g3] at h
        cases h
    · rw [if_neg g2] at h
      cases h
  · rw [if_neg g1] at h
    cases h
theorem pSh_b {X : Tx} {t t' : Tok} (h : pSh X t = .inr t') : 0 ≤ vl X t ∧ vl X t ≤ 3 := by
  unfold pSh at h
  by_cases g1 : isN X t 0 3
  · exact g1.2
  · rw [if_neg g1] at h
    cases h
theorem pShut_b {X : Tx} {t t' : Tok} (h : pShut X t = .inr t') : 0 ≤ vl X t ∧ vl X t ≤ 3 := by
  unfold pShut at h
  by_cases g1 : isN X t 0 3
  · exact g1.2
  · rw [if_neg g1] at h
    cases h
theorem pCl_t {X : Tx} {t t' : Tok} {T : Told} (w : wh X t = 1) (h : pCl X t T = .inr t') : ¬ 6 ≤ T.1 ∧ pTone X (nt X t) = .inr t' := by
  by_cases h6 : 6 ≤ T.1
  · rw [pCl_6 w h6] at h
    cases h
  · exact ⟨h6, (pCl_1 w h6).symm.trans h⟩
/-! sounds stay valid -/
theorem vTd_z {K : So} (h : vSz K) : vTd (K.1, K.2.1) := ⟨h.1, fun s s0 s1 => (h.2 s s0 s1).1⟩
theorem vSz_add {K : So} {n : Int} {g : Int → UInt32} (h : vSz K) (h6 : ¬ K.1 = 6) (hn : 1 ≤ n ∧ n ≤ 64) : vSz (addS K n g) := by
  have z := h.1
  refine ⟨?_, fun s s0 s1 => ?_⟩
  · show 0 ≤ K.1 + 1 ∧ K.1 + 1 ≤ 6
    omega
  · have zs := h.2 s s0 s1
    show (0 ≤ up K.2.1 K.1 n s ∧ up K.2.1 K.1 n s ≤ 64) ∧ (s < K.1 + 1 → 1 ≤ up K.2.1 K.1 n s)
    unfold up
    by_cases e : s = K.1
    · rw [if_pos e]
      omega
    · rw [if_neg e]
      omega
theorem vSf_add {K : So} {n : Int} {g : Int → UInt32} (h : vSf K) (h0 : 0 ≤ K.1) (hg : ∀ i, 0 ≤ i → i < n → fb (134 + 15 * K.1.toNat) (g i) ∧ ¬ g i = 2147483648) : vSf (addS K n g) := by
  intro s i s0 s1 i0 i1
  replace s1 : s < K.1 + 1 := s1
  replace i1 : i < up K.2.1 K.1 n s := i1
  show fb (134 + 15 * s.toNat) (if s = K.1 then g i else K.2.2 s i) ∧ ¬ (if s = K.1 then g i else K.2.2 s i) = 2147483648
  unfold up at i1
  by_cases e : s = K.1
  · rw [if_pos e] at i1
    rw [if_pos e, e]
    exact hg i i0 i1
  · rw [if_neg e] at i1
    rw [if_neg e]
    exact h s i s0 (by omega) i0 i1
theorem vQ_add {K : So} {n : Int} {g : Int → UInt32} {p : Sp} (h : vQ K p) : vQ (addS K n g) p := by
  obtain ⟨a, b⟩ := h
  refine ⟨?_, ?_⟩
  · show q0 p < K.1 + 1
    omega
  · show q1 p + q2 p ≤ up K.2.1 K.1 n (q0 p)
    unfold up
    rw [if_neg (by omega)]
    exact b
theorem tone_b {a b i n : Int} (ha : 0 ≤ a ∧ a ≤ 200) (hb : 0 ≤ b ∧ b ≤ 200) (hn : n ≤ 64) (i0 : 0 ≤ i) (i1 : i < n) (E : Nat) (hE : 134 ≤ E) : fb E (toneF a b i) ∧ ¬ toneF a b i = 2147483648 := by
  have r := tone_r ha.1 ha.2 i0 (by omega : i ≤ 64) hb.1 hb.2
  have t := tn_b r.1 r.2
  exact ⟨fb_mono t.1 hE, t.2⟩
theorem vTr_emp {T : Tr} (h : vTr T) : vTr (empT T) := by
  intro k k0 k1
  obtain ⟨a, b, c⟩ := h k k0 k1
  have ek : empT T k = (([], 0), (T k).2.1, 0) := by
    unfold empT
    rw [if_pos ⟨k0, k1⟩]
  rw [ek]
  refine ⟨a, fun t ht => ?_, Or.inl rfl⟩
  rcases List.mem_cons.mp ht with e | e
  · rw [e]
    exact ⟨⟨trivial, by show 0 ≤ 12; omega, fun p hp => by simp at hp⟩, by show (-16 : Int) ≤ 0; omega, by show (0 : Int) ≤ 16; omega⟩
  · exact b t (List.mem_cons_of_mem _ e)
theorem vTr_sh {T : Tr} {k : Int} (h : vTr T) (k0 : 0 ≤ k) (k1 : k ≤ 3) : vTr (shT T k) := vTr_up h (h k k0 k1).1 (h k k0 k1).2.1 (Or.inr rfl)
theorem vQN_sh {K : So} {T : Tr} {k : Int} (h : vQN K T) : vQN K (shT T k) := by
  intro j j0 j1 p hp
  unfold shT upT at hp
  by_cases e : j = k
  · subst e
    rw [if_pos rfl] at hp
    exact h j j0 j1 p hp
  · rw [if_neg e] at hp
    exact h j j0 j1 p hp
theorem prf_v {X : Tx} {t t' : Tok} {K : So} {T : Tr} (hZ : vSz K) (hF : vSf K) (hV : vTr T) (hQ : vQN K T) (hg : pCl X t (K.1, K.2.1) = .inr t') : vSz (prf X t K T).1 ∧ vSf (prf X t K T).1 ∧ vTr (prf X t K T).2 ∧ vQN (prf X t K T).1 (prf X t K T).2 ∧ tCl X t (K.1, K.2.1) = ((prf X t K T).1.1, (prf X t K T).1.2.1) := by
  rcases wh_c X t with w | w | w | w | w | w | w | w
  · rw [pCl_n w] at hg
    cases hg
  · rw [prf_0 w, tCl_0 w]
    refine ⟨⟨⟨Int.le_refl 0, by show (0 : Int) ≤ 6; omega⟩, fun s s0 s1 => ⟨(hZ.2 s s0 s1).1, fun z => ?_⟩⟩, fun s i s0 s1 => ?_, vTr_emp hV, fun k k0 k1 p hp => ?_, rfl⟩
    · replace z : s < 0 := z
      omega
    · replace s1 : s < 0 := s1
      omega
    · replace hp : p ∈ (empT T k).1.1 := hp
      unfold empT at hp
      rw [if_pos ⟨k0, k1⟩] at hp
      simp at hp
  · obtain ⟨h6, g⟩ := pCl_t w hg
    replace h6 : ¬ 6 ≤ K.1 := h6
    obtain ⟨b1, b2, b3⟩ := pTone_b g
    have z := hZ.1
    rw [prf_1 w, tCl_1 w]
    exact ⟨vSz_add hZ (by omega) b3, vSf_add hF z.1 (fun i i0 i1 => tone_b b1 b2 b3.2 i0 i1 _ (by omega)), hV, fun k k0 k1 p hp => vQ_add (hQ k k0 k1 p hp), rfl⟩
  · have s := s_put (k := vl X (nt X t)) (s := vl X (nt X (nt X t))) (f := vl X (nt X (nt X (nt X t)))) (m := vl X (nt X (nt X (nt X (nt X t))))) (t := vl X (nt X (nt X (nt X (nt X (nt X t)))))) hZ hV hQ
    rw [prf_2 w, tCl_2 (by omega) (by omega)]
    exact ⟨hZ, hF, stp_v s hV, stp_N s hQ, rfl⟩
  · have s := s_fade (K := K) (k := vl X (nt X t)) (i := vl X (nt X (nt X t))) (a := vl X (nt X (nt X (nt X t)))) (b := vl X (nt X (nt X (nt X (nt X t))))) hV hQ
    rw [prf_3 w, tCl_2 (by omega) (by omega)]
    exact ⟨hZ, hF, stp_v s hV, stp_N s hQ, rfl⟩
  · have s := s_gain (K := K) (k := vl X (nt X t)) (i := vl X (nt X (nt X t))) (g := vl X (nt X (nt X (nt X t)))) hV hQ
    rw [prf_4 w, tCl_2 (by omega) (by omega)]
    exact ⟨hZ, hF, stp_v s hV, stp_N s hQ, rfl⟩
  · have s := s_shift (K := K) (k := vl X (nt X t)) (n := vShift X (nt X (nt X t))) hV hQ
    rw [prf_5 w, tCl_2 (by omega) (by omega)]
    exact ⟨hZ, hF, stp_v s hV, stp_N s hQ, rfl⟩
  · rw [pCl_7 w] at hg
    have b := pShut_b hg
    rw [prf_6 w, tCl_2 (by omega) (by omega)]
    exact ⟨hZ, hF, vTr_sh hV b.1 b.2, vQN_sh hQ, rfl⟩
/-! the past does not matter -/
def nsh (T T' : Tr) : Prop := ∀ k, (T k).1 = (T' k).1 ∧ (T k).2.2 = (T' k).2.2
theorem nsh_up {T T' : Tr} {k : Int} {v v' : Tk × List Tk × Int} (h : nsh T T') (h1 : v.1 = v'.1) (h2 : v.2.2 = v'.2.2) : nsh (upT T k v) (upT T' k v') := by
  intro j
  unfold upT
  by_cases e : j = k
  · rw [if_pos e, if_pos e]
    exact ⟨h1, h2⟩
  · rw [if_neg e, if_neg e]
    exact h j
theorem nsh_nw {T T' : Tr} {k : Int} {x : Tk} (h : nsh T T') : nsh (nwT T k x) (nwT T' k x) := nsh_up h rfl (h k).2
theorem nsh_ly {T T' : Tr} {k : Int} {R : List (Int × Sp)} (h : nsh T T') : nsh (lyT T k R).2 (lyT T' k R).2 := by
  unfold lyT
  rw [(h k).1]
  by_cases e : 12 < R.length
  · rw [if_pos e, if_pos e]
    exact h
  · rw [if_neg e, if_neg e]
    exact nsh_nw h
theorem prf_nsh {X : Tx} {t : Tok} {K : So} {T T' : Tr} (h : nsh T T') : (prf X t K T).1 = (prf X t K T').1 ∧ nsh (prf X t K T).2 (prf X t K T').2 := by
  rcases wh_c X t with w | w | w | w | w | w | w | w
  · have e : ∀ T, prf X t K T = (K, shT T (vl X (nt X t))) := fun T => by
      unfold prf
      rw [if_neg (by omega), if_neg (by omega), if_neg (by omega), if_neg (by omega), if_neg (by omega), if_neg (by omega)]
    rw [e, e]
    exact ⟨rfl, nsh_up h (h _).1 rfl⟩
  · rw [prf_0 w, prf_0 w]
    refine ⟨rfl, fun k => ?_⟩
    show (empT T k).1 = (empT T' k).1 ∧ (empT T k).2.2 = (empT T' k).2.2
    unfold empT
    by_cases e : 0 ≤ k ∧ k ≤ 3
    · rw [if_pos e, if_pos e]
      exact ⟨rfl, rfl⟩
    · rw [if_neg e, if_neg e]
      exact h k
  · rw [prf_1 w, prf_1 w]
    exact ⟨rfl, h⟩
  · rw [prf_2 w, prf_2 w]
    refine ⟨rfl, ?_⟩
    generalize vl X (nt X t) = k, vl X (nt X (nt X t)) = s, vl X (nt X (nt X (nt X t))) = f, vl X (nt X (nt X (nt X (nt X t)))) = m, vl X (nt X (nt X (nt X (nt X (nt X t))))) = y
    show nsh (oPut K T k s f m y).2 (oPut K T' k s f m y).2
    unfold oPut
    rw [(h k).1]
    by_cases c1 : ¬ ((0 ≤ k ∧ k ≤ 3) ∧ 0 ≤ s ∧ s < K.1)
    · rw [if_pos c1, if_pos c1]
      exact h
    · rw [if_neg c1, if_neg c1]
      by_cases c2 : ¬ ((0 ≤ f ∧ f < K.2.1 s) ∧ (1 ≤ m ∧ m ≤ K.2.1 s - f) ∧ 0 ≤ y ∧ y ≤ 128 - m)
      · rw [if_pos c2, if_pos c2]
        exact h
      · rw [if_neg c2, if_neg c2]
        exact nsh_ly h
  · rw [prf_3 w, prf_3 w]
    refine ⟨rfl, ?_⟩
    generalize vl X (nt X t) = k, vl X (nt X (nt X t)) = i, vl X (nt X (nt X (nt X t))) = a, vl X (nt X (nt X (nt X (nt X t)))) = b
    show nsh (oFade T k i a b).2 (oFade T' k i a b).2
    unfold oFade
    rw [(h k).1]
    by_cases c1 : ¬ ((0 ≤ k ∧ k ≤ 3) ∧ 0 ≤ i ∧ i < (T' k).1.1.length)
    · rw [if_pos c1, if_pos c1]
      exact h
    · rw [if_neg c1, if_neg c1]
      by_cases c2 : ¬ (0 ≤ a ∧ 0 ≤ b ∧ a + b ≤ q2 (spA (T' k).1.1 i))
      · rw [if_pos c2, if_pos c2]
        exact h
      · rw [if_neg c2, if_neg c2]
        exact nsh_nw h
  · rw [prf_4 w, prf_4 w]
    refine ⟨rfl, ?_⟩
    generalize vl X (nt X t) = k, vl X (nt X (nt X t)) = i, vl X (nt X (nt X (nt X t))) = g
    show nsh (oGain T k i g).2 (oGain T' k i g).2
    unfold oGain
    rw [(h k).1]
    by_cases c1 : ¬ ((0 ≤ k ∧ k ≤ 3) ∧ 0 ≤ i ∧ i < (T' k).1.1.length)
    · rw [if_pos c1, if_pos c1]
      exact h
    · rw [if_neg c1, if_neg c1]
      by_cases c2 : ¬ (0 ≤ g ∧ g ≤ 16)
      · rw [if_pos c2, if_pos c2]
        exact h
      · rw [if_neg c2, if_neg c2]
        exact nsh_nw h
  · rw [prf_5 w, prf_5 w]
    refine ⟨rfl, ?_⟩
    generalize vl X (nt X t) = k, vShift X (nt X (nt X t)) = n
    show nsh (oShift T k n).2 (oShift T' k n).2
    unfold oShift
    rw [(h k).1]
    by_cases c1 : ¬ (0 ≤ k ∧ k ≤ 3)
    · rw [if_pos c1, if_pos c1]
      exact h
    · rw [if_neg c1, if_neg c1]
      by_cases c2 : ¬ (-16 ≤ n ∧ n ≤ 16)
      · rw [if_pos c2, if_pos c2]
        exact h
      · rw [if_neg c2, if_neg c2]
        exact nsh_nw h
  · rw [prf_6 w, prf_6 w]
    exact ⟨rfl, nsh_up h (h _).1 rfl⟩
