/-! the model does the text -/
theorem mP_s {u0 u : aS} {X : Tx} {t : Tok} {T : Told} {p : Int} (h : mP u0 u X t T p) : mP u u X t T p := ⟨h.1, h.2.1, h.2.2.1, h.2.2.2.1, h.2.2.2.2.1, h.2.2.2.2.2.1, h.2.2.2.2.2.2.1, fW_rfl u⟩
/-- the whole, with other sounds and tracks -/
def wST (A : Al) (z : So × Tr) : Al := (z.1, A.2.1, A.2.2.1, z.2, A.2.2.2.2)
theorem w_reads1 {d : Nat} {X : Tx} {T0 : Told} {N : Nat} {z : Int} {Q : aQ} {A : Al} (hV : vTx X) (hZ : vSz A.1) (hF : vSf A.1) (hT : vTr A.2.2.2.1) (hQ : vQN A.1 A.2.2.2.1) (e0 : T0 = (A.1.1, A.1.2.1)) (hg : gdN X T0 N) (hN : N ≤ 24) (hz : z = N) {cc ss : Nat} {u0 : aS} (h : ∀ u', mA u' (wST A (itN hK X T0 A.1 A.2.2.2.1 N)) → fM u0 u' → Q (some (vI z)) u') : ∀ (m n : Nat) (i : Int) (u : aS), n + m + 1 = N → i = n → mP u u X (stn X T0 n).1 (stn X T0 n).2 (-1) → mA u (wST A (itN hK X T0 A.1 A.2.2.2.1 n)) → fM u0 u → wp (wpm (d + 5)) cd_X8_reads Q 52 [vR 139, vI 1, vI i, vI 1] [] u cc ss := by
  intro m
  induction m with
  | zero =>
    intro n i u hn hi hP hA hf
    have a18 := hP.place
    obtain ⟨v1, v2, v3, v4, v5⟩ := itN_v ok_hK hZ hF hT hQ e0 hg n (by omega)
    obtain ⟨t', y1, y2, y3⟩ := hg n (by omega)
    obtain ⟨s', hs', es'⟩ := pCl_r hP.2.2.1 y1
    refine run [(118, []), (52, [])] 60 ?_
    refine z_bq (fun hx => ?_) (fun hx => by omega)
    refine c_clause1 hV hP hA v1 v3 v5 y1 (fun u1 m1 m2 m3 => ?_)
    have b18 := m1.place
    have q4 := (mP_k hV m1 (by rw [es']; exact nt_nz hs')).1.2 (y2 (by omega))
    repeat first
      | refine z_gq (by first | omega | (simp [hI_sI, hI_sF, hI_sR, hI_nw, hI_ff, hI_fl, hI_cp]; try omega)) ?_
      | refine z_iq rfl (by first | omega | (simp [hI_sI, hI_sF, hI_sR, hI_nw, hI_ff, hI_fl, hI_cp]; try omega)) (by first | omega | (simp [hI_sI, hI_sF, hI_sR, hI_nw, hI_ff, hI_fl, hI_cp]; try omega)) ?_
    refine z_bq (fun hy => ?_) (fun hy => by omega)
    refine z_bq (fun hw => by omega) (fun hw => ?_)
    refine run [(52, [])] 60 ?_
    refine z_bq (fun hy => ?_) (fun hy => by omega)
    refine z_bq (fun hw => ?_) (fun hw => by omega)
    refine run [] 60 ?_
    have en : n + 1 = N := by omega
    have g := h u1
    rw [← en] at g
    exact q_eq (g m2 (fM_tr hf m3)) (by omega)
  | succ m ih =>
    intro n i u hn hi hP hA hf
    have a18 := hP.place
    obtain ⟨v1, v2, v3, v4, v5⟩ := itN_v ok_hK hZ hF hT hQ e0 hg n (by omega)
    obtain ⟨t', y1, y2, y3⟩ := hg n (by omega)
    obtain ⟨s', hs', es'⟩ := pCl_r hP.2.2.1 y1
    obtain ⟨x1, x2, x3⟩ := y3 (by omega)
    refine run [(118, []), (52, [])] 60 ?_
    refine z_bq (fun hx => ?_) (fun hx => by omega)
    refine c_clause1 hV hP hA v1 v3 v5 y1 (fun u1 m1 m2 m3 => ?_)
    have b18 := m1.place
    obtain ⟨q4, q3, q59⟩ := mP_k hV m1 (by rw [es']; exact nt_nz hs')
    have k3 := q59 x2
    have k59 := q3 k3
    repeat first
      | refine z_gq (by first | omega | (simp [hI_sI, hI_sF, hI_sR, hI_nw, hI_ff, hI_fl, hI_cp]; try omega)) ?_
      | refine z_iq rfl (by first | omega | (simp [hI_sI, hI_sF, hI_sR, hI_nw, hI_ff, hI_fl, hI_cp]; try omega)) (by first | omega | (simp [hI_sI, hI_sF, hI_sR, hI_nw, hI_ff, hI_fl, hI_cp]; try omega)) ?_
    refine z_bq (fun hy => ?_) (fun hy => by omega)
    refine z_bq (fun hw => ?_) (fun hw => by omega)
    refine z_bq (fun hv => ?_) (fun hv => by omega)
    refine z_bq (fun hu => ?_) (fun hu => by omega)
    refine c_nextP hV m1 (fun u3 m4 => ?_)
    have es := stn_s y1
    refine ih (n + 1) (i + 1) u3 (by omega) (by omega) ?_ (mA_W m4.w m2) (fM_tr hf (fM_tr m3 (fW_M m4.w)))
    rw [es]
    exact mP_s m4
theorem c_reads1 {d : Nat} {N : Nat} {z : Int} {u : aS} {Q : aQ} {A : Al} (hA : mA u A) (hV : vTx A.2.1) (hZ : vSz A.1) (hF : vSf A.1) (hT : vTr A.2.2.2.1) (hQ : vQN A.1 A.2.2.2.1) (hg : gdN A.2.1 (A.1.1, A.1.2.1) N) (hN : N ≤ 24) (hz : z = N) (h1 : 1 ≤ N) (h : ∀ u', mA u' (wST A (itN hK A.2.1 (A.1.1, A.1.2.1) A.1 A.2.2.2.1 N)) → fM u u' → Q (some (vI z)) u') : wpm (d + 6) M_X8_reads [vR 139, vI 1] u Q := by
  refine c_rstart (d := d + 3) hV hA.1 hA.2.2.1 hA.2.1 (fun u' m => ?_)
  exact w_reads1 hV hZ hF hT hQ rfl hg hN hz h (N - 1) 0 0 u' (by omega) rfl (mP_s m) (mA_W m.w hA) (fW_M m.w)
theorem pAll_b {X : Tx} : ∀ (m : Nat) (c : Int) (t : Tok) (T : Told), vTok X t → -1 ≤ (pAll X m c t T).1
  | 0, c, t, T, hv => by
    have := hv.1
    show -1 ≤ t.1
    omega
  | m + 1, c, t, T, hv => by
    show -1 ≤ (match pCl X t T with
      | .inl t' => (t'.1, c)
      | .inr t' => if t'.2.1 = 4 then (-1, c + 1) else if lt X t'.1 = 59 ∧ ¬ c + 1 = 24 then pAll X m (c + 1) (nt X t') (tCl X t T) else (t'.1, c + 1) : Int × Int).1
    cases e : pCl X t T with
    | inl t' =>
      have := (pCl_l hv e).1
      show -1 ≤ t'.1
      omega
    | inr t' =>
      obtain ⟨s, hs, es⟩ := pCl_r hv e
      have v : vTok X t' := by
        rw [es]
        exact vTok_t hs
      simp only []
      by_cases e4 : t'.2.1 = 4
      · rw [if_pos e4]
        show (-1 : Int) ≤ -1
        omega
      · rw [if_neg e4]
        by_cases e5 : lt X t'.1 = 59 ∧ ¬ c + 1 = 24
        · rw [if_pos e5]
          exact pAll_b m (c + 1) _ _ (vTok_t v)
        · rw [if_neg e5]
          have := v.1
          show -1 ≤ t'.1
          omega
theorem pTx_b {X : Tx} {K : So} (hV : vTx X) : -1 ≤ (pTx X K).1 := pAll_b 24 0 _ _ (vTok_n (by omega) (by have := hV.1; omega))
def fgt (T : Tr) : Tr := fun k => ((T k).1, [], (T k).2.2)
theorem fgt_e {T T' : Tr} (h : nsh T T') : fgt T = fgt T' := by
  funext k
  unfold fgt
  rw [(h k).1, (h k).2]
/-- all that is behind a text is forgotten -/
def fgA (A : Al) : Al := (A.1, (0, A.2.1.2), (fun _ => -1, A.2.2.1.2), fgt A.2.2.2.1, fun k => (0, (A.2.2.2.2 k).2))
def oHouse (A : Al) : Int × Al := if (pTx A.2.1 A.1).1 = -1 then ((pTx A.2.1 A.1).2, fgA (wST A (itN (fun _ T' => T') A.2.1 (A.1.1, A.1.2.1) A.1 A.2.2.2.1 (pTx A.2.1 A.1).2.toNat))) else (-2000000003, A)
theorem w_mh1 {d : Nat} {Q : aQ} {n : Int} {c s : Nat} : ∀ (m : Nat) (i : Int) (u : aS), mS u → i + m = 4 → 0 ≤ i → wp (wpm d) cd_X8_house Q 47 [vR 139, vI n, vI 4] [] (fl u 145 i 4 0) c s → wp (wpm d) cd_X8_house Q 29 [vR 139, vI n, vI i] [] u c s
  | 0, i, u, hS, h1, h0, h => by
    rw [fl_end u 145 0 (by omega)] at h
    have e : i = 4 := by omega
    subst e
    refine run [(47, [])] 60 ?_
    exact h
  | m + 1, i, u, hS, h1, h0, h => by
    refine run [(29, [])] 60 ?_
    refine z_bq (fun hz => ?_) (fun hz => by omega)
    repeat first
      | refine z_gq (by first | omega | (simp [hI_sI, hI_sF, hI_sR, hI_nw, hI_ff, hI_fl, hI_cp]; try omega)) ?_
      | refine z_iq rfl (by first | omega | (simp [hI_sI, hI_sF, hI_sR, hI_nw, hI_ff, hI_fl, hI_cp]; try omega)) (by first | omega | (simp [hI_sI, hI_sF, hI_sR, hI_nw, hI_ff, hI_fl, hI_cp]; try omega)) ?_
      | refine z_dq (mS.deeds hS) ?_
    rw [← fl_step u 145 0 (show i < 4 by omega)] at h
    exact w_mh1 m (i + 1) _ hS (by omega) (by omega) h
theorem w_mh2 {d : Nat} {Q : aQ} {n : Int} {c s : Nat} : ∀ (m : Nat) (i : Int) (u : aS), mS u → i + m = 2 → 0 ≤ i → wp (wpm d) cd_X8_house Q 67 [vR 139, vI n, vI 2] [] (fl u 148 i 2 0) c s → wp (wpm d) cd_X8_house Q 49 [vR 139, vI n, vI i] [] u c s
  | 0, i, u, hS, h1, h0, h => by
    rw [fl_end u 148 0 (by omega)] at h
    have e : i = 2 := by omega
    subst e
    refine run [(67, [])] 60 ?_
    exact h
  | m + 1, i, u, hS, h1, h0, h => by
    refine run [(49, [])] 60 ?_
    refine z_bq (fun hz => ?_) (fun hz => by omega)
    repeat first
      | refine z_gq (by first | omega | (simp [hI_sI, hI_sF, hI_sR, hI_nw, hI_ff, hI_fl, hI_cp]; try omega)) ?_
      | refine z_iq rfl (by first | omega | (simp [hI_sI, hI_sF, hI_sR, hI_nw, hI_ff, hI_fl, hI_cp]; try omega)) (by first | omega | (simp [hI_sI, hI_sF, hI_sR, hI_nw, hI_ff, hI_fl, hI_cp]; try omega)) ?_
      | refine z_dq (mS.kept hS) ?_
    rw [← fl_step u 148 0 (show i < 2 by omega)] at h
    exact w_mh2 m (i + 1) _ hS (by omega) (by omega) h
theorem w_mh3 {d : Nat} {Q : aQ} {n : Int} {c s : Nat} : ∀ (m : Nat) (i : Int) (u : aS), mS u → i + m = 3 → 0 ≤ i → Q (some (vI n)) (fl u 153 i 3 (-1)) → wp (wpm d) cd_X8_house Q 69 [vR 139, vI n, vI i] [] u c s
  | 0, i, u, hS, h1, h0, h => by
    rw [fl_end u 153 (-1) (by omega)] at h
    have e : i = 3 := by omega
    subst e
    refine run [] 60 ?_
    exact h
  | m + 1, i, u, hS, h1, h0, h => by
    refine run [(69, [])] 60 ?_
    refine z_bq (fun hz => ?_) (fun hz => by omega)
    repeat first
      | refine z_gq (by first | omega | (simp [hI_sI, hI_sF, hI_sR, hI_nw, hI_ff, hI_fl, hI_cp]; try omega)) ?_
      | refine z_iq rfl (by first | omega | (simp [hI_sI, hI_sF, hI_sR, hI_nw, hI_ff, hI_fl, hI_cp]; try omega)) (by first | omega | (simp [hI_sI, hI_sF, hI_sR, hI_nw, hI_ff, hI_fl, hI_cp]; try omega)) ?_
      | refine z_dq (mS.sort hS) ?_
    rw [← fl_step u 153 (-1) (show i < 3 by omega)] at h
    exact w_mh3 m (i + 1) _ hS (by omega) (by omega) h
theorem mA_fg {u : aS} {A : Al} (hA : mA u A) : mA (fl (fl (fl (sI u 139 13 0) 145 0 4 0) 148 0 2 0) 153 0 3 (-1)) (fgA A) := by
  obtain ⟨h1, h2, h3, h4, h5, h6⟩ := hA
  have e : ∀ a i, ¬ (a = 139 ∧ i = 13) → ¬ a = 145 → ¬ a = 148 → ¬ a = 153 → hI (fl (fl (fl (sI u 139 13 0) 145 0 4 0) 148 0 2 0) 153 0 3 (-1)) a i = hI u a i := fun a i g1 g2 g3 g4 => by rw [hI_fl, if_neg (by omega), hI_fl, if_neg (by omega), hI_fl, if_neg (by omega), hI_sI, if_neg (by omega)]
  refine ⟨h1, mSo_f (e 139 2 (by omega) (by omega) (by omega) (by omega)) (fun i => e 141 i (by omega) (by omega) (by omega) (by omega)) (fun i => rfl) h2, ⟨?_, fun i i0 i1 => ?_⟩, ⟨fun r r0 r1 => ⟨?_, ?_⟩, fun j j0 j1 => ?_⟩, fun k k0 k1 => ⟨?_, ?_, ?_, fun j t ht => ?_⟩, fun k k0 k1 => ⟨?_, fun z => ?_⟩⟩
  · rw [hI_fl, if_neg (by omega), hI_fl, if_neg (by omega), hI_fl, if_neg (by omega), hI_sI, if_pos ⟨rfl, rfl⟩]
    rfl
  · replace i1 : i < 0 := i1
    omega
  · rw [hI_fl, if_pos (by omega)]
    rfl
  · exact (e 154 r (by omega) (by omega) (by omega) (by omega)).trans (h4.1 r r0 r1).2
  · exact (e 155 j (by omega) (by omega) (by omega) (by omega)).trans (h4.2 j j0 j1)
  · exact mTk_e (fun i => e 142 i (by omega) (by omega) (by omega) (by omega)) (h5 k k0 k1).1
  · exact (e 143 k (by omega) (by omega) (by omega) (by omega)).trans (h5 k k0 k1).2.1
  · rw [hI_fl, if_neg (by omega), hI_fl, if_neg (by omega), hI_fl, if_pos (by omega)]
    rfl
  · replace ht : ([] : List Tk)[j]? = some t := ht
    simp at ht
  · rw [hI_fl, if_neg (by omega), hI_fl, if_pos (by omega)]
    rfl
  · replace z : (0 : Int) = 1 := z
    omega
theorem c_house {d : Nat} {u : aS} {Q : aQ} {A : Al} (hA : mA u A) (hV : vTx A.2.1) (hZ : vSz A.1) (hF : vSf A.1) (hT : vTr A.2.2.2.1) (hQ : vQN A.1 A.2.2.2.1) (h : ∀ u', mA u' (oHouse A).2 → fM u u' → Q (some (vI (oHouse A).1)) u') : wpm (d + 7) M_X8_house [vR 139] u Q := by
  have hb := pTx_b (K := A.1) hV
  unfold oHouse at h
  refine e_X8_house rfl (run [(29, [])] 60 ?_)
  refine c_reads0 hA hV (vTd_z hZ) (fun u1 n1 m1 m2 => ?_)
  refine z_bq (fun hz => ?_) (fun hz => ?_)
  · rw [if_pos (by omega)] at h
    obtain ⟨N, g1, g2, g3, g4⟩ := gd_all (T0 := (A.1.1, A.1.2.1)) hV (by show (pTx A.2.1 A.1).1 = -1; omega)
    have g1' : (pTx A.2.1 A.1).2 = N := g1
    have hn : (pTx A.2.1 A.1).2.toNat = N := by omega
    rw [hn] at h
    have ev : fgA (wST A (itN (fun _ T' => T') A.2.1 (A.1.1, A.1.2.1) A.1 A.2.2.2.1 N)) = fgA (wST A (itN hK A.2.1 (A.1.1, A.1.2.1) A.1 A.2.2.2.1 N)) := by
      have p := itN_n (X := A.2.1) (T0 := (A.1.1, A.1.2.1)) (K := A.1) (T := A.2.2.2.1) ok_id ok_hK N
      unfold fgA wST
      rw [p.1, fgt_e p.2]
    rw [ev] at h
    refine c_reads1 (mA_W m1 hA) hV hZ hF hT hQ g4 g3 g1' g2 (fun u2 m3 m4 => ?_)
    refine w_mh1 4 0 _ m3.1 (by omega) (by omega) ?_
    refine run [(49, [])] 60 ?_
    refine w_mh2 2 0 _ m3.1 (by omega) (by omega) ?_
    refine run [(69, [])] 60 ?_
    refine w_mh3 3 0 _ m3.1 (by omega) (by omega) ?_
    exact h _ (mA_fg m3) (fM_tr (fW_M m1) (fM_tr m4 (fM_tr (fM_sI _ _ _ (by omega)) (fM_tr (fM_fl _ _ _ _ (by omega)) (fM_tr (fM_fl _ _ _ _ (by omega)) (fM_fl _ _ _ _ (by omega)))))))
  · rw [if_neg (by omega)] at h
    exact h u1 (mA_W m1 hA) (fW_M m1)
