/-! the class does a clause -/
theorem k_becomeEmpty {d : Nat} {B : Nat} {K : Tk × List Tk × Int} {u : aS} {Q : aQ} (hB : isB B) (hT : cT1 u B K) (h : ∀ u', fA (fun a => pT B a ∨ nx u ≤ a) u u' → nx u' = nx u → cT1 u' B (([], 0), K.2.1, 0) → Q none u') : wpm (d + 1) M_X6_becomeEmpty [vR B] u Q := by
  obtain ⟨a0, a1, p0, p1, p2, p3, hW⟩ := hT
  have hW : cW u B a0 a1 p0 p1 p2 p3 K := hW
  have kB := hB.k0
  have r0 := hW.1.1.1
  have ta0 := hW.1.2.2.2.1.1
  have tp0 := hB.tp ta0
  have ka := tp0.1
  have hl0 := hB.le
  have b0 := tA_b ta0
  refine e_X6_becomeEmpty rfl (run [] 60 ?_)
  repeat first
    | refine z_gq (by first | omega | (simp [hI_sI, hI_sF, hI_sR, hI_nw, hI_ff, hI_fl, hI_cp]; try omega)) ?_
    | refine z_iq rfl (by first | omega | (simp [hI_sI, hI_sF, hI_sR, hI_nw, hI_ff, hI_fl, hI_cp]; try omega)) (by first | omega | (simp [hI_sI, hI_sF, hI_sR, hI_nw, hI_ff, hI_fl, hI_cp]; try omega)) ?_
    | refine z_kq (kB) ?_
    | refine z_dq (r0) ?_
    | refine z_kq (ka) ?_
  have hf : fA (fun x => x = a0 ∨ x = B) u (sI (sI (sI u a0 1 0) a0 2 0) B 4 0) := fA_tr (fA_sI _ _ _ (by omega)) (fA_tr (fA_sI _ _ _ (by omega)) (fA_sI _ _ _ (by omega)))
  refine h _ (fA_wk hf (fun x z => ?_)) rfl ⟨a0, a1, p0, p1, p2, p3, hW.1, ⟨hW.1.2.2.1.1, ?_, ?_, fun i p hp => ?_⟩, ?_, ?_, ?_⟩
  · rcases z with e | e
    · exact pT_t hB ta0 (Nat.le_refl _) (Or.inl e)
    · exact pT_b (Or.inl e)
  · rw [hI_sI, if_neg (by omega), hI_sI, if_neg (by omega), hI_sI, if_pos ⟨rfl, rfl⟩]
    rfl
  · rw [hI_sI, if_neg (by omega), hI_sI, if_pos ⟨rfl, rfl⟩]
  · replace hp : ([] : List Sp)[i]? = some p := hp
    simp at hp
  · obtain ⟨⟨hb1, hb2, hc, ht⟩, _, hP, _⟩ := hW
    refine cP_f hf (fun b _ _ => by omega) _ _ (fun t hm => ?_) hP
    have st : ∀ t, tA B t → ¬ a0 = t → ¬ (t = a0 ∨ t = B) ∧ ¬ (t + 1 = a0 ∨ t + 1 = B) := by
      intro t ht hne
      have := tA_n ta0 ht hne
      have := tA_b ht
      omega
    have t2 := ht.1.2.2.1
    have t3 := ht.1.2.2.2.1
    have t4 := ht.1.2.2.2.2.1
    have t5 := ht.1.2.2.2.2.2
    simp only [List.mem_cons, List.not_mem_nil, or_false] at hm
    rcases hm with e | e | e | e
    · exact st t (e ▸ t2) (e ▸ ht.2.1.2.1)
    · exact st t (e ▸ t3) (e ▸ ht.2.1.2.2.1)
    · exact st t (e ▸ t4) (e ▸ ht.2.1.2.2.2.1)
    · exact st t (e ▸ t5) (e ▸ ht.2.1.2.2.2.2)
  · rw [hI_sI, if_neg (by omega), hI_sI, if_neg (by omega), hI_sI, if_neg (by omega)]
    exact hW.2.2.2.1
  · rw [hI_sI, if_pos ⟨rfl, rfl⟩]
/-- of the class only sounds, tracks, spans have changed -/
def fX (u u' : aS) : Prop := fA (fun a => 9 ≤ a ∧ a ≤ 19 ∨ 50 ≤ a ∧ a ≤ 129 ∨ 156 ≤ a) u u'
theorem fX_C {u u' : aS} (h : fC u u') : fX u u' := fA_wk h (fun a => by omega)
def emI (T : Tr) (i : Int) : Tr := fun k => if 0 ≤ k ∧ k < i then (([], 0), (T k).2.1, 0) else T k
theorem emI_up (T : Tr) {i : Int} (h : 0 ≤ i) : upT (emI T i) i (([], 0), (T i).2.1, 0) = emI T (i + 1) := by
  funext j
  unfold upT emI
  by_cases e : j = i
  · subst e
    rw [if_pos rfl, if_pos (by omega)]
  · rw [if_neg e]
    by_cases e2 : 0 ≤ j ∧ j < i
    · rw [if_pos e2, if_pos (by omega)]
    · rw [if_neg e2, if_neg (by omega)]
theorem emI_4 (T : Tr) : emI T 4 = empT T := by
  funext j
  unfold emI empT
  by_cases e : 0 ≤ j ∧ j ≤ 3
  · rw [if_pos e, if_pos (by omega)]
  · rw [if_neg e, if_neg (by omega)]
theorem emI_0 (T : Tr) : emI T 0 = T := by
  funext j
  unfold emI
  rw [if_neg (by omega)]
theorem w_clearAll {d : Nat} {u0 : aS} {Q : aQ} {A : Al} {c s : Nat} (h : ∀ u, cA u (A.1, A.2.1, A.2.2.1, empT A.2.2.2.1, A.2.2.2.2) → fX u0 u → Q none u) : ∀ (n : Nat) (k : Int) (u : aS), k + n = 4 → 0 ≤ k → cA u (A.1, A.2.1, A.2.2.1, emI A.2.2.2.1 k, A.2.2.2.2) → fX u0 u → wp (wpm (d + 1)) cd_X7_clearAll Q 10 [vR 8, vI k] [] u c s
  | 0, k, u, h1, h0, hA, hf => by
    have e : k = 4 := by omega
    subst e
    rw [emI_4] at hA
    refine run [] 60 ?_
    exact h u hA hf
  | n + 1, k, u, h1, h0, hA, hf => by
    have hS := hA.1
    have hx := hA.2.1
    have k1 : k ≤ 3 := by omega
    have hB := isB_k h0 k1
    have kB := hB.k0
    refine run [(10, [])] 60 ?_
    refine z_bq (fun hz => ?_) (fun hz => by omega)
    repeat first
      | refine z_gq (by first | omega | (simp [hI_sI, hI_sF, hI_sR, hI_nw, hI_ff, hI_fl, hI_cp]; try omega)) ?_
      | refine z_iq rfl (by first | omega | (simp [hI_sI, hI_sF, hI_sR, hI_nw, hI_ff, hI_fl, hI_cp]; try omega)) (by first | omega | (simp [hI_sI, hI_sF, hI_sR, hI_nw, hI_ff, hI_fl, hI_cp]; try omega)) ?_
      | refine z_dq (hS.tracks) ?_
      | refine z_dq (hS.track h0 k1) ?_
      | refine z_kq (kB) ?_
    refine k_becomeEmpty hB (hA.2.2.2.2.2.1 k h0 k1) (fun u' m1 m2 m3 => ?_)
    repeat first
      | refine z_gq (by first | omega | (simp [hI_sI, hI_sF, hI_sR, hI_nw, hI_ff, hI_fl, hI_cp]; try omega)) ?_
      | refine z_iq rfl (by first | omega | (simp [hI_sI, hI_sF, hI_sR, hI_nw, hI_ff, hI_fl, hI_cp]; try omega)) (by first | omega | (simp [hI_sI, hI_sF, hI_sR, hI_nw, hI_ff, hI_fl, hI_cp]; try omega)) ?_
    have ek : emI A.2.2.2.1 k k = A.2.2.2.1 k := by
      unfold emI
      rw [if_neg (by omega)]
    have m3' : cT1 u' (50 + 20 * k.toNat) (([], 0), (emI A.2.2.2.1 k k).2.1, 0) := m3
    rw [ek] at m3'
    have hA2 := cA_tr hA h0 k1 m1 m3'
    refine w_clearAll h n (k + 1) u' (by omega) (by omega) ?_ (fA_tr hf (fX_C (fC_pT hB hx m1)))
    rw [← emI_up A.2.2.2.1 h0]
    exact hA2
theorem k_clearAll {d : Nat} {u : aS} {Q : aQ} {A : Al} (hA : cA u A) (h : ∀ u', cA u' ((0, A.1.2), A.2.1, A.2.2.1, empT A.2.2.2.1, A.2.2.2.2) → fX u u' → Q none u') : wpm (d + 2) M_X7_clearAll [vR 8] u Q := by
  have hS := hA.1
  refine e_X7_clearAll rfl (run [(10, [])] 60 ?_)
  repeat first
    | refine z_gq (by first | omega | (simp [hI_sI, hI_sF, hI_sR, hI_nw, hI_ff, hI_fl, hI_cp]; try omega)) ?_
    | refine z_iq rfl (by first | omega | (simp [hI_sI, hI_sF, hI_sR, hI_nw, hI_ff, hI_fl, hI_cp]; try omega)) (by first | omega | (simp [hI_sI, hI_sF, hI_sR, hI_nw, hI_ff, hI_fl, hI_cp]; try omega)) ?_
    | refine z_dq (hS.sounds) ?_
  have f1 : fA (fun a => a = 9 ∨ (11 ≤ a ∧ a ≤ 17)) u (sI u 9 2 0) := fA_sI _ _ _ (Or.inl rfl)
  have hA1 : cA (sI u 9 2 0) ((0, A.1.2), A.2) := by
    refine cA_so hA f1 (fun _ => rfl) ⟨?_, fun s s0 s1 => ?_, fun s i s0 s1 i0 i1 i2 => ?_⟩
    · rw [hI_sI, if_pos ⟨rfl, rfl⟩]
    · rw [hI_sI, if_neg (by omega)]
      exact hA.2.2.1.2.1 s s0 s1
    · replace i2 : s < 0 := i2
      omega
  refine w_clearAll (A := ((0, A.1.2), A.2)) (u0 := u) h 4 0 _ (by omega) (by omega) ?_ (fA_wk f1 (fun a => by omega))
  rw [emI_0]
  exact hA1
theorem k_perform {d : Nat} {X : Tx} {t t' : Tok} {R : Nat} {u : aS} {Q : aQ} {A : Al} (hA : cA u A) (hZ : vSz A.1) (hT : vTr A.2.2.2.1) (hr : 25 ≤ R ∧ R ≤ 48) (hw : rCl X (wh X t) (nt X t) (fun j => hI u R j)) (hg : pCl X t (A.1.1, A.1.2.1) = .inr t') (h : ∀ u', cA u' (wST A (prf X t A.1 A.2.2.2.1)) → fX u u' → Q none u') : wpm (d + 6) M_X7_perform [vR 8, vR R] u Q := by
  have hS := hA.1
  have hx := hA.2.1
  have kc := kd_cl hr.1 hr.2
  obtain ⟨w0, w1, w2, w3, w4, w5⟩ := hw
  replace w0 : hI u R 0 = wh X t := w0
  replace w1 : ¬ wh X t = 0 → hI u R 1 = vl X (nt X t) := w1
  replace w2 : wh X t = 1 ∨ wh X t = 2 ∨ wh X t = 3 ∨ wh X t = 4 → hI u R 2 = vl X (nt X (nt X t)) ∧ hI u R 3 = vl X (nt X (nt X (nt X t))) := w2
  replace w3 : wh X t = 2 ∨ wh X t = 3 → hI u R 4 = vl X (nt X (nt X (nt X (nt X t)))) := w3
  replace w4 : wh X t = 2 → hI u R 5 = vl X (nt X (nt X (nt X (nt X (nt X t))))) := w4
  replace w5 : wh X t = 5 → hI u R 2 = vShift X (nt X (nt X t)) := w5
  refine e_X7_perform rfl (run [] 60 ?_)
  refine z_iq kc (by omega) (by omega) ?_
  rw [w0]
  rcases wh_c X t with w | w | w | w | w | w | w | w
  · rw [pCl_n w] at hg
    cases hg
  · rw [prf_0 w] at h
    rw [w]
    exact k_clearAll hA (fun u' m1 m2 => h u' m1 m2)
  · rw [prf_1 w] at h
    obtain ⟨h6, g⟩ := pCl_t w hg
    replace h6 : ¬ 6 ≤ A.1.1 := h6
    obtain ⟨b1, b2, b3⟩ := pTone_b g
    rw [w]
    repeat first
      | refine z_gq (by first | omega | (simp [hI_sI, hI_sF, hI_sR, hI_nw, hI_ff, hI_fl, hI_cp]; try omega)) ?_
      | refine z_iq rfl (by first | omega | (simp [hI_sI, hI_sF, hI_sR, hI_nw, hI_ff, hI_fl, hI_cp]; try omega)) (by first | omega | (simp [hI_sI, hI_sF, hI_sR, hI_nw, hI_ff, hI_fl, hI_cp]; try omega)) ?_
      | refine z_dq (hS.sounds) ?_
      | refine z_iq (kc) (by first | omega | (simp [hI_sI, hI_sF, hI_sR, hI_nw, hI_ff, hI_fl, hI_cp]; try omega)) (by first | omega | (simp [hI_sI, hI_sF, hI_sR, hI_nw, hI_ff, hI_fl, hI_cp]; try omega)) ?_
    rw [w1 (by omega), (w2 (by omega)).1, (w2 (by omega)).2]
    exact k_addTone hA hZ b1 b2 b3 (by omega) (fun u' m1 m2 => h u' m1 (fA_wk m2 (fun a => by omega)))
  · rw [prf_2 w] at h
    rw [w]
    repeat first
      | refine z_gq (by first | omega | (simp [hI_sI, hI_sF, hI_sR, hI_nw, hI_ff, hI_fl, hI_cp]; try omega)) ?_
      | refine z_iq rfl (by first | omega | (simp [hI_sI, hI_sF, hI_sR, hI_nw, hI_ff, hI_fl, hI_cp]; try omega)) (by first | omega | (simp [hI_sI, hI_sF, hI_sR, hI_nw, hI_ff, hI_fl, hI_cp]; try omega)) ?_
      | refine z_iq (kc) (by first | omega | (simp [hI_sI, hI_sF, hI_sR, hI_nw, hI_ff, hI_fl, hI_cp]; try omega)) (by first | omega | (simp [hI_sI, hI_sF, hI_sR, hI_nw, hI_ff, hI_fl, hI_cp]; try omega)) ?_
    rw [w1 (by omega), (w2 (by omega)).1, (w2 (by omega)).2, w3 (by omega), w4 w]
    refine z_cq (c := 25) (k := 25) (c' := 0) rfl ?_
    refine z_cq (c := 175) (k := 175) (c' := 0) rfl ?_
    exact k_put hA hZ hT (fun u' m1 m2 => h u' m1 (fX_C m2))
  · rw [prf_3 w] at h
    rw [w]
    repeat first
      | refine z_gq (by first | omega | (simp [hI_sI, hI_sF, hI_sR, hI_nw, hI_ff, hI_fl, hI_cp]; try omega)) ?_
      | refine z_iq rfl (by first | omega | (simp [hI_sI, hI_sF, hI_sR, hI_nw, hI_ff, hI_fl, hI_cp]; try omega)) (by first | omega | (simp [hI_sI, hI_sF, hI_sR, hI_nw, hI_ff, hI_fl, hI_cp]; try omega)) ?_
      | refine z_iq (kc) (by first | omega | (simp [hI_sI, hI_sF, hI_sR, hI_nw, hI_ff, hI_fl, hI_cp]; try omega)) (by first | omega | (simp [hI_sI, hI_sF, hI_sR, hI_nw, hI_ff, hI_fl, hI_cp]; try omega)) ?_
    rw [w1 (by omega), (w2 (by omega)).1, (w2 (by omega)).2, w3 (by omega)]
    refine z_cq (c := 25) (k := 1) (c' := 24) rfl ?_
    refine z_cq (c := 175) (k := 7) (c' := 168) rfl ?_
    exact k_fade hA hT (fun u' m1 m2 => h u' m1 (fX_C m2))
  · rw [prf_4 w] at h
    rw [w]
    repeat first
      | refine z_gq (by first | omega | (simp [hI_sI, hI_sF, hI_sR, hI_nw, hI_ff, hI_fl, hI_cp]; try omega)) ?_
      | refine z_iq rfl (by first | omega | (simp [hI_sI, hI_sF, hI_sR, hI_nw, hI_ff, hI_fl, hI_cp]; try omega)) (by first | omega | (simp [hI_sI, hI_sF, hI_sR, hI_nw, hI_ff, hI_fl, hI_cp]; try omega)) ?_
      | refine z_iq (kc) (by first | omega | (simp [hI_sI, hI_sF, hI_sR, hI_nw, hI_ff, hI_fl, hI_cp]; try omega)) (by first | omega | (simp [hI_sI, hI_sF, hI_sR, hI_nw, hI_ff, hI_fl, hI_cp]; try omega)) ?_
    rw [w1 (by omega), (w2 (by omega)).1, (w2 (by omega)).2]
    refine z_cq (c := 25) (k := 1) (c' := 24) rfl ?_
    refine z_cq (c := 175) (k := 7) (c' := 168) rfl ?_
    exact k_gain hA hT (fun u' m1 m2 => h u' m1 (fX_C m2))
  · rw [prf_5 w] at h
    rw [w]
    repeat first
      | refine z_gq (by first | omega | (simp [hI_sI, hI_sF, hI_sR, hI_nw, hI_ff, hI_fl, hI_cp]; try omega)) ?_
      | refine z_iq rfl (by first | omega | (simp [hI_sI, hI_sF, hI_sR, hI_nw, hI_ff, hI_fl, hI_cp]; try omega)) (by first | omega | (simp [hI_sI, hI_sF, hI_sR, hI_nw, hI_ff, hI_fl, hI_cp]; try omega)) ?_
      | refine z_iq (kc) (by first | omega | (simp [hI_sI, hI_sF, hI_sR, hI_nw, hI_ff, hI_fl, hI_cp]; try omega)) (by first | omega | (simp [hI_sI, hI_sF, hI_sR, hI_nw, hI_ff, hI_fl, hI_cp]; try omega)) ?_
    rw [w1 (by omega), w5 w]
    exact k_shift hA hT (fun u' m1 m2 => h u' m1 (fX_C m2))
  · rw [prf_6 w] at h
    rw [pCl_7 w] at hg
    have b := pShut_b hg
    have e1 := w1 (by omega)
    rw [w]
    repeat first
      | refine z_gq (by first | omega | (simp [hI_sI, hI_sF, hI_sR, hI_nw, hI_ff, hI_fl, hI_cp]; try omega)) ?_
      | refine z_iq rfl (by first | omega | (simp [hI_sI, hI_sF, hI_sR, hI_nw, hI_ff, hI_fl, hI_cp]; try omega)) (by first | omega | (simp [hI_sI, hI_sF, hI_sR, hI_nw, hI_ff, hI_fl, hI_cp]; try omega)) ?_
      | refine z_iq (kc) (by first | omega | (simp [hI_sI, hI_sF, hI_sR, hI_nw, hI_ff, hI_fl, hI_cp]; try omega)) (by first | omega | (simp [hI_sI, hI_sF, hI_sR, hI_nw, hI_ff, hI_fl, hI_cp]; try omega)) ?_
    rw [e1]
    generalize vl X (nt X t) = k at *
    refine k_isTrack (fun k0 k1 => ?_) (fun k0 => by omega)
    have hB := isB_k k0 k1
    have kB := hB.k0
    have hl := hB.le
    obtain ⟨a0, a1, p0, p1, p2, p3, hW⟩ := hA.2.2.2.2.2.1 k k0 k1
    have etr : hR u 18 (hI u R 1) = some (50 + 20 * k.toNat) := by
      rw [e1]
      exact hS.track k0 k1
    have k18 : (kd 18) = (23, 4) := rfl
    repeat first
      | refine z_gq (by first | omega | (simp [hI_sI, hI_sF, hI_sR, hI_nw, hI_ff, hI_fl, hI_cp]; try omega)) ?_
      | refine z_iq rfl (by first | omega | (simp [hI_sI, hI_sF, hI_sR, hI_nw, hI_ff, hI_fl, hI_cp]; try omega)) (by first | omega | (simp [hI_sI, hI_sF, hI_sR, hI_nw, hI_ff, hI_fl, hI_cp]; try omega)) ?_
      | refine z_dq (hS.tracks) ?_
      | refine z_iq (kc) (by first | omega | (simp [hI_sI, hI_sF, hI_sR, hI_nw, hI_ff, hI_fl, hI_cp]; try omega)) (by first | omega | (simp [hI_sI, hI_sF, hI_sR, hI_nw, hI_ff, hI_fl, hI_cp]; try omega)) ?_
      | refine z_dq (etr) ?_
      | refine z_kq (kB) ?_
    have hf : fA (fun x => x = 50 + 20 * k.toNat ∨ x = 50 + 20 * k.toNat + 5) u (sI u (50 + 20 * k.toNat) 4 1) := fA_sI _ _ _ (by omega)
    have hW2 := cW_p (K := ((A.2.2.2.1 k).1, (A.2.2.2.1 k).2.1, 1)) hB hf ⟨hW.1.1, hW.1.2.1⟩ hW.1.2.2.1 hW.1.2.2.2 hW.2.1 hW.2.2.1 (by rw [hI_sI, if_neg (by omega)]; exact hW.2.2.2.1) (by rw [hI_sI, if_pos ⟨rfl, rfl⟩])
    have hF : fA (fun a => pT (50 + 20 * k.toNat) a ∨ nx u ≤ a) u (sI u (50 + 20 * k.toNat) 4 1) := fA_wk hf (fun x z => pT_b z)
    have hA2 := cA_tr hA k0 k1 hF ⟨a0, a1, p0, p1, p2, p3, hW2⟩
    exact h _ hA2 (fX_C (fC_pT hB hx hF))
