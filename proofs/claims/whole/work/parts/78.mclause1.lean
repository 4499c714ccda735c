/-! the model does a clause -/
theorem mP.w {u0 u : aS} {X : Tx} {t : Tok} {T : Told} {p : Int} (h : mP u0 u X t T p) : fW u0 u := h.2.2.2.2.2.2.2
theorem c_clause1 {d : Nat} {X : Tx} {t t' : Tok} {T : Told} {u : aS} {Q : aQ} {A : Al} (hV : vTx X) (hP : mP u u X t T (-1)) (hA : mA u A) (hZ : vSz A.1) (hT : vTr A.2.2.2.1) (eT : T = (A.1.1, A.1.2.1)) (hg : pCl X t T = .inr t') (h : ∀ u', mP u' u' X t' (tCl X t T) (-1) → mA u' ((prf X t A.1 A.2.2.2.1).1, A.2.1, A.2.2.1, hK A.2.2.2.1 (prf X t A.1 A.2.2.2.1).2, A.2.2.2.2) → fM u u' → Q none u') : wpm (d + 5) M_X8_clause [vR 139, vI 1] u Q := by
  have hTd : vTd T := by
    rw [eT]
    exact vTd_z hZ
  have t1 : T.1 = A.1.1 := by rw [eT]
  have t2 : T.2 = A.1.2.1 := by rw [eT]
  refine c_clauseW hV hP (fun w Q' q => ?_) (fun w Q' q => ?_) (fun w Q' q => ?_) (fun w Q' q => ?_) (fun w Q' q => ?_) (fun w Q' q => ?_) (fun w Q' q => ?_) (fun w Q' q => ?_)
  · rw [tCl_0 w, prf_0 w] at h
    have g : nt X t = t' := by
      rw [pCl_0 w] at hg
      cases hg
      rfl
    rw [← g] at h
    refine c_toldHouse hV hP (fun u1 m => ?_)
    refine d_house (mA_W m.w hA) (fun u2 a2 f2 => ?_)
    exact q u2 (h u2 (mP_re m f2 a2.1) a2 (fM_tr (fW_M m.w) (fD_M f2)))
  · rw [tCl_1 w, prf_1 w] at h
    obtain ⟨h6, g⟩ := pCl_t w hg
    obtain ⟨b1, b2, b3⟩ := pTone_b g
    have z := hZ.1
    refine c_toldTone hV hP hTd (fun _ t'' g2 u1 m => ?_) (fun t'' g2 u1 m => ?_) (Or.inr (Or.inr ⟨t', g⟩))
    · rw [g] at g2
      cases g2
      refine d_tone (mA_W m.w hA) hZ b1 b2 b3 (by omega) (fun u2 a2 f2 => ?_)
      exact q u2 (h u2 (mP_re m f2 a2.1) a2 (fM_tr (fW_M m.w) (fD_M f2)))
    · rcases g2 with ⟨e, _⟩ | ⟨_, e⟩
      · exact absurd e h6
      · rw [g] at e
        cases e
  · rw [tCl_2 (by omega) (by omega), prf_2 w] at h
    have g := (pCl_2 w).symm.trans hg
    obtain ⟨b1, b2, b3, b4, b5⟩ := pPut_b g
    rw [t2] at b3 b4
    refine c_toldPut hV hP hTd (fun t'' g2 u1 m => ?_) (fun t'' g2 u1 m => ?_) (Or.inr ⟨t', g⟩)
    · rw [g] at g2
      cases g2
      refine d_put (mA_W m.w hA) hZ hT b1 (by omega) (by omega) b4 b5 (fun u2 a2 f2 => ?_)
      exact q u2 (h u2 (mP_re m f2 a2.1) a2 (fM_tr (fW_M m.w) (fD_M f2)))
    · rw [g] at g2
      cases g2
  · rw [tCl_2 (by omega) (by omega), prf_3 w] at h
    have g := (pCl_3 w).symm.trans hg
    obtain ⟨b1, b2⟩ := pFade_b g
    refine c_toldFade hV hP (fun t'' g2 u1 m => ?_) (fun t'' g2 u1 m => ?_) (Or.inr ⟨t', g⟩)
    · rw [g] at g2
      cases g2
      refine d_fade (mA_W m.w hA) hT b1 b2 (fun u2 a2 f2 => ?_)
      exact q u2 (h u2 (mP_re m f2 a2.1) a2 (fM_tr (fW_M m.w) (fD_M f2)))
    · rw [g] at g2
      cases g2
  · rw [tCl_2 (by omega) (by omega), prf_4 w] at h
    have g := (pCl_4 w).symm.trans hg
    have b1 := pGain_b g
    refine c_toldGain hV hP (fun t'' g2 u1 m => ?_) (fun t'' g2 u1 m => ?_) (Or.inr ⟨t', g⟩)
    · rw [g] at g2
      cases g2
      refine d_gain (mA_W m.w hA) hT b1 (fun u2 a2 f2 => ?_)
      exact q u2 (h u2 (mP_re m f2 a2.1) a2 (fM_tr (fW_M m.w) (fD_M f2)))
    · rw [g] at g2
      cases g2
  · rw [tCl_2 (by omega) (by omega), prf_5 w] at h
    have g := (pCl_5 w).symm.trans hg
    have b1 := pSh_b g
    refine c_toldShift hV hP (fun t'' g2 u1 b n m hn hb => ?_) (fun t'' g2 u1 m => ?_) (Or.inr ⟨t', g⟩)
    · rw [g] at g2
      cases g2
      refine d_shift (mA_W m.w hA) hT b1 hn hb (fun u2 a2 f2 => ?_)
      exact q u2 (h u2 (mP_re m f2 a2.1) a2 (fM_tr (fW_M m.w) (fD_M f2)))
    · rw [g] at g2
      cases g2
  · rw [tCl_2 (by omega) (by omega), prf_6 w] at h
    have g := (pCl_7 w).symm.trans hg
    have b1 := pShut_b g
    refine c_toldShut hV hP (fun t'' g2 u1 m => ?_) (fun t'' g2 u1 m => ?_) (Or.inr ⟨t', g⟩)
    · rw [g] at g2
      cases g2
      refine d_shut (mA_W m.w hA) hT b1 (fun u2 a2 f2 => ?_)
      exact q u2 (h u2 (mP_re m f2 a2.1) a2 (fM_tr (fW_M m.w) (fD_M f2)))
    · rw [g] at g2
      cases g2
  · rw [pCl_n w] at hg
    cases hg
/-! all clauses are good -/
def gdN (X : Tx) (T0 : Told) (N : Nat) : Prop := ∀ n, n < N → ∃ t', pCl X (stn X T0 n).1 (stn X T0 n).2 = .inr t' ∧ (n + 1 = N → t'.2.1 = 4) ∧ (¬ n + 1 = N → ¬ t'.2.1 = 4 ∧ lt X t'.1 = 59 ∧ n + 1 < 24)
theorem stn_s {X : Tx} {T0 : Told} {n : Nat} {t' : Tok} (h : pCl X (stn X T0 n).1 (stn X T0 n).2 = .inr t') : stn X T0 (n + 1) = (nt X t', tCl X (stn X T0 n).1 (stn X T0 n).2) := by
  show (match pCl X (stn X T0 n).1 (stn X T0 n).2 with
    | .inl _ => stn X T0 n
    | .inr t' => (nt X t', tCl X (stn X T0 n).1 (stn X T0 n).2)) = _
  rw [h]
theorem pCl_l {X : Tx} {t t' : Tok} {T : Told} (ht : vTok X t) (h : pCl X t T = .inl t') : vTok X t' := by
  have t1 := vTok_t ht
  have t2 := vTok_t t1
  have t3 := vTok_t t2
  have t4 := vTok_t t3
  have t5 := vTok_t t4
  unfold pCl at h
  rcases ite_or h with h | h
  · cases h
    exact ht
  rcases ite_or h with h | h
  · cases h
  rcases ite_or h with h | h
  · unfold pTone at h
    rcases ite_or h with h | h
    · rcases ite_or h with h | h
      · rcases ite_or h with h | h
        · cases h
        · cases h
          exact t3
      · cases h
        exact t2
    · cases h
      exact t1
  rcases ite_or h with h | h
  · unfold pPut at h
    rcases ite_or h with h | h
    · rcases ite_or h with h | h
      · rcases ite_or h with h | h
        · rcases ite_or h with h | h
          · rcases ite_or h with h | h
            · cases h
            · cases h
              exact t5
          · cases h
            exact t4
        · cases h
          exact t3
      · cases h
        exact t2
    · cases h
      exact t1
  rcases ite_or h with h | h
  · unfold pFade at h
    rcases ite_or h with h | h
    · rcases ite_or h with h | h
      · rcases ite_or h with h | h
        · rcases ite_or h with h | h
          · cases h
          · cases h
            exact t4
        · cases h
          exact t3
      · cases h
        exact t2
    · cases h
      exact t1
  rcases ite_or h with h | h
  · unfold pGain at h
    rcases ite_or h with h | h
    · rcases ite_or h with h | h
      · rcases ite_or h with h | h
        · cases h
        · cases h
          exact t3
      · cases h
        exact t2
    · cases h
      exact t1
  rcases ite_or h with h | h
  · unfold pSh at h
    rcases ite_or h with h | h
    · unfold pShift at h
      rcases ite_or h with h | h
      · rcases ite_or h with h | h
        · cases h
        · cases h
          exact t3
      · rcases ite_or h with h | h
        · cases h
        · cases h
          exact t2
    · cases h
      exact t1
  · unfold pShut at h
    rcases ite_or h with h | h
    · cases h
    · cases h
      exact t1
theorem gd_of {X : Tx} {T0 : Told} {z : Int × Int} (hz : z.1 = -1) : ∀ (m c : Nat), c + m = 24 → vTok X (stn X T0 c).1 → (∀ n, n < c → ∃ t', pCl X (stn X T0 n).1 (stn X T0 n).2 = .inr t' ∧ ¬ t'.2.1 = 4 ∧ lt X t'.1 = 59 ∧ n + 1 < 24) → pAll X m c (stn X T0 c).1 (stn X T0 c).2 = z → ∃ N : Nat, z.2 = N ∧ 1 ≤ N ∧ N ≤ 24 ∧ gdN X T0 N
  | 0, c, h1, hv, hb, h => by
    replace h : ((stn X T0 c).1.1, (c : Int)) = z := h
    rw [← h] at hz
    replace hz : (stn X T0 c).1.1 = -1 := hz
    have := hv.1
    omega
  | m + 1, c, h1, hv, hb, h => by
    replace h : (match pCl X (stn X T0 c).1 (stn X T0 c).2 with
      | .inl t' => (t'.1, (c : Int))
      | .inr t' => if t'.2.1 = 4 then (-1, (c : Int) + 1) else if lt X t'.1 = 59 ∧ ¬ (c : Int) + 1 = 24 then pAll X m ((c : Int) + 1) (nt X t') (tCl X (stn X T0 c).1 (stn X T0 c).2) else (t'.1, (c : Int) + 1)) = z := h
    cases e : pCl X (stn X T0 c).1 (stn X T0 c).2 with
    | inl t' =>
      rw [e] at h
      have v := (pCl_l hv e).1
      rw [← h] at hz
      replace hz : t'.1 = -1 := hz
      omega
    | inr t' =>
      rw [e] at h
      simp only [] at h
      obtain ⟨s, hs, es⟩ := pCl_r hv e
      have v : vTok X t' := by
        rw [es]
        exact vTok_t hs
      by_cases e4 : t'.2.1 = 4
      · rw [if_pos e4] at h
        refine ⟨c + 1, by rw [← h]; rfl, by omega, by omega, fun n hn => ?_⟩
        by_cases en : n = c
        · subst en
          exact ⟨t', e, fun _ => e4, fun z => absurd rfl z⟩
        · obtain ⟨y, y1, y2⟩ := hb n (by omega)
          exact ⟨y, y1, fun z => by omega, fun _ => y2⟩
      · rw [if_neg e4] at h
        by_cases e5 : lt X t'.1 = 59 ∧ ¬ (c : Int) + 1 = 24
        · rw [if_pos e5] at h
          have es := stn_s e
          refine gd_of hz m (c + 1) (by omega) (by rw [es]; exact vTok_t v) (fun n hn => ?_) (by rw [es]; exact h)
          by_cases en : n = c
          · subst en
            exact ⟨t', e, e4, e5.1, by omega⟩
          · exact hb n (by omega)
        · rw [if_neg e5] at h
          rw [← h] at hz
          replace hz : t'.1 = -1 := hz
          have := v.1
          omega
theorem gd_all {X : Tx} {T0 : Told} (hV : vTx X) (h : (pAll X 24 0 (nxt X 0) T0).1 = -1) : ∃ N : Nat, (pAll X 24 0 (nxt X 0) T0).2 = N ∧ 1 ≤ N ∧ N ≤ 24 ∧ gdN X T0 N := gd_of h 24 0 rfl (vTok_n (by omega) (by have := hV.1; omega)) (fun n hn => by omega) rfl
/-! one after another -/
def itN (f : Tr → Tr → Tr) (X : Tx) (T0 : Told) (K : So) (T : Tr) : Nat → So × Tr
  | 0 => (K, T)
  | n + 1 => ((prf X (stn X T0 n).1 (itN f X T0 K T n).1 (itN f X T0 K T n).2).1, f (itN f X T0 K T n).2 (prf X (stn X T0 n).1 (itN f X T0 K T n).1 (itN f X T0 K T n).2).2)
def okF (f : Tr → Tr → Tr) : Prop := ∀ T T', nsh (f T T') T' ∧ (vTr T → vTr T' → vTr (f T T'))
theorem ok_hK : okF hK := by
  intro T T'
  refine ⟨fun k => ⟨rfl, rfl⟩, fun h h' k k0 k1 => ?_⟩
  obtain ⟨a, b, c⟩ := h k k0 k1
  obtain ⟨a', b', c'⟩ := h' k k0 k1
  refine ⟨a, fun t ht => ?_, c'⟩
  rcases List.mem_cons.mp ht with e | e
  · rw [e]
    exact b' _ (List.mem_cons_self ..)
  · exact b t (List.mem_cons_of_mem _ e)
theorem ok_id : okF (fun _ T' => T') := fun T T' => ⟨fun k => ⟨rfl, rfl⟩, fun _ h' => h'⟩
theorem vQN_e {K : So} {T T' : Tr} (h : nsh T T') (hQ : vQN K T') : vQN K T := by
  intro k k0 k1 p hp
  rw [(h k).1] at hp
  exact hQ k k0 k1 p hp
theorem itN_v {f : Tr → Tr → Tr} {X : Tx} {T0 : Told} {K : So} {T : Tr} {N : Nat} (hf : okF f) (hZ : vSz K) (hF : vSf K) (hV : vTr T) (hQ : vQN K T) (e0 : T0 = (K.1, K.2.1)) (hg : gdN X T0 N) : ∀ n, n ≤ N → vSz (itN f X T0 K T n).1 ∧ vSf (itN f X T0 K T n).1 ∧ vTr (itN f X T0 K T n).2 ∧ vQN (itN f X T0 K T n).1 (itN f X T0 K T n).2 ∧ (stn X T0 n).2 = ((itN f X T0 K T n).1.1, (itN f X T0 K T n).1.2.1)
  | 0, _ => ⟨hZ, hF, hV, hQ, e0⟩
  | n + 1, hn => by
    obtain ⟨a, b, c, e, g⟩ := itN_v hf hZ hF hV hQ e0 hg n (by omega)
    obtain ⟨t', y1, y2⟩ := hg n (by omega)
    have es := stn_s y1
    have y1' := y1
    rw [g] at y1'
    obtain ⟨p1, p2, p3, p4, p5⟩ := prf_v a b c e y1'
    have k := hf (itN f X T0 K T n).2 (prf X (stn X T0 n).1 (itN f X T0 K T n).1 (itN f X T0 K T n).2).2
    refine ⟨p1, p2, k.2 c p3, vQN_e k.1 p4, ?_⟩
    rw [es, g]
    exact p5
theorem nsh_tr {A B C : Tr} (h1 : nsh A B) (h2 : nsh B C) : nsh A C := fun k => ⟨(h1 k).1.trans (h2 k).1, (h1 k).2.trans (h2 k).2⟩
theorem nsh_sy {A B : Tr} (h1 : nsh A B) : nsh B A := fun k => ⟨(h1 k).1.symm, (h1 k).2.symm⟩
theorem itN_n {f g : Tr → Tr → Tr} {X : Tx} {T0 : Told} {K : So} {T : Tr} (hf : okF f) (hg : okF g) : ∀ n, (itN f X T0 K T n).1 = (itN g X T0 K T n).1 ∧ nsh (itN f X T0 K T n).2 (itN g X T0 K T n).2
  | 0 => ⟨rfl, fun k => ⟨rfl, rfl⟩⟩
  | n + 1 => by
    obtain ⟨a, b⟩ := itN_n (X := X) (T0 := T0) (K := K) (T := T) hf hg n
    have p := prf_nsh (X := X) (t := (stn X T0 n).1) (K := (itN f X T0 K T n).1) b
    rw [a] at p
    refine ⟨?_, ?_⟩
    · show (prf X (stn X T0 n).1 (itN f X T0 K T n).1 (itN f X T0 K T n).2).1 = (prf X (stn X T0 n).1 (itN g X T0 K T n).1 (itN g X T0 K T n).2).1
      rw [a]
      exact p.1
    · refine nsh_tr (hf _ _).1 (nsh_tr ?_ (nsh_sy (hg _ _).1))
      rw [a]
      exact p.2
