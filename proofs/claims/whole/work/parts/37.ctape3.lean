/-! tapes: takeRest, copyOf, indexAt -/
def cRw (u : aS) (o : Nat) (i : Int) (r : List Sp) : Prop := ∀ (j : Nat) (p : Sp), r[j]? = some p → ∃ b, hR u (o + 1) (i + j) = some b ∧ cSp u b p
theorem cRw_c {u : aS} {o : Nat} {i : Int} {p : Sp} {r : List Sp} (h : cRw u o i (p :: r)) : (∃ b, hR u (o + 1) i = some b ∧ cSp u b p) ∧ cRw u o (i + 1) r := by
  refine ⟨?_, fun j q hq => ?_⟩
  · have := h 0 p rfl
    simpa using this
  · have := h (j + 1) q (by simpa using hq)
    have e : i + ((j + 1 : Nat) : Int) = i + 1 + (j : Int) := by omega
    rw [e] at this
    exact this
theorem cRw_0 {u : aS} {o : Nat} {K : Tk} (h : cTk u o K) : cRw u o 0 K.1 := fun j p hp => by
  rw [Int.zero_add]
  exact h.2.2.2 j p hp
theorem cRw_f {p : Nat → Prop} {u u' : aS} {o : Nat} {i : Int} {r : List Sp} (hf : fA p u u') (h1 : ¬ p (o + 1)) (h2 : ∀ b, 156 ≤ b → b < nx u → ¬ p b) (h : cRw u o i r) : cRw u' o i r := by
  intro j q hq
  obtain ⟨b, e, hb⟩ := h j q hq
  refine ⟨b, ?_, cSp_f hf (h2 b hb.1.1 hb.1.2) hb⟩
  rw [(hf.1 _ h1 _).2.2]
  exact e
theorem rs_c (a b g : Int) (e : Int × Sp) (R : List (Int × Sp)) : rs a b g (e :: R) = if e.1 = g then rs a b g R else if b ≤ a ∨ qe e.2 ≤ a ∨ b ≤ q3 e.2 then e :: rs a b g R else (if q3 e.2 < a then [(e.1, ahd e.2 a)] else []) ++ ((if b < qe e.2 then [(e.1, frm e.2 b)] else []) ++ rs a b g R) := rfl
theorem w_takeRest {d : Nat} {Q : aQ} {t o : Nat} {a b g N sh : Int} (ht : isTp t) (ho : isTp o) (hne : ¬ t = o ∧ ¬ t = o + 1 ∧ ¬ t + 1 = o) (ha : 0 ≤ a ∧ a ≤ 128) (hb : 0 ≤ b ∧ b ≤ 128) (hN : N ≤ 14) : ∀ (r : List Sp) (i : Int) (D : List Sp) (u : aS) (c s : Nat) (w : aV), 156 ≤ nx u → hR u o 0 = some (o + 1) → hI u o 1 = N → cRw u o i r → cTk u t (D, sh) → i + r.length = N → 0 ≤ i → D.length + (rs a b g (en i r)).length ≤ 14 → 2 * r.length ≤ c → 14 * r.length ≤ s → (∀ p, p ∈ r → vP p) → (∀ u', fA (fun x => x = t ∨ x = t + 1 ∨ nx u ≤ x) u u' → cTk u' t (D ++ (rs a b g (en i r)).map Prod.snd, sh) → Q none u') → wp (wpm (d + 2)) cd_X4_takeRest Q 16 [vR t, vR o, vI a, vI b, vI g, vI i, w] [] u c s
  | [], i, D, u, c, s, w, hx, hr, hn, hw, hK, h1, h2, h3, h4, h5, hv, h => by
    simp at h1
    refine run [(16, [])] 60 ?_
    repeat first
      | refine z_gq (by first | omega | (simp [hI_sI, hI_sF, hI_sR, hI_nw, hI_ff, hI_fl, hI_cp]; try omega)) ?_
      | refine z_iq rfl (by first | omega | (simp [hI_sI, hI_sF, hI_sR, hI_nw, hI_ff, hI_fl, hI_cp]; try omega)) (by first | omega | (simp [hI_sI, hI_sF, hI_sR, hI_nw, hI_ff, hI_fl, hI_cp]; try omega)) ?_
      | refine z_kq (ho.1) ?_
    refine z_bq (fun hz => by omega) (fun hz => ?_)
    refine h u (fA_rfl _ u) ?_
    rw [show D ++ (rs a b g (en i [])).map Prod.snd = D from List.append_nil D]
    exact hK
  | p :: r, i, D, u, c, s, w, hx, hr, hn, hw, hK, h1, h2, h3, h4, h5, hv, h => by
    obtain ⟨⟨y, y1, y2⟩, hw2⟩ := cRw_c hw
    have ky := kd_s1 y2.1.1
    have vp := hv p (List.mem_cons_self ..)
    have vp' := vp
    unfold vP at vp'
    have e3 : hI u y 3 = q3 p := y2.2.2.2.2.1
    have eq : qe p = q3 p + q2 p := rfl
    simp at h1 h4 h5
    obtain ⟨t0, t1, t2⟩ := ht
    obtain ⟨o0, o1, o2⟩ := ho
    have hen : en i (p :: r) = (i, p) :: en (i + 1) r := rfl
    rw [hen, rs_c] at h3 h
    simp only [] at h3 h
    have step : ∀ (D' : List Sp) (u' : aS) (c' s' : Nat), fA (fun x => x = t ∨ x = t + 1 ∨ nx u ≤ x) u u' → cTk u' t (D', sh) → D'.length + (rs a b g (en (i + 1) r)).length ≤ 14 → 2 * r.length ≤ c' → 14 * r.length ≤ s' → (∀ v, fA (fun x => x = t ∨ x = t + 1 ∨ nx u ≤ x) u v → cTk v t (D' ++ (rs a b g (en (i + 1) r)).map Prod.snd, sh) → Q none v) → wp (wpm (d + 2)) cd_X4_takeRest Q 114 [vR t, vR o, vI a, vI b, vI g, vI i, vR y] [] u' c' s' := by
      intro D' u' c' s' hf hK' g1 g2 g3 g4
      refine run [(16, [])] 60 ?_
      repeat first
        | refine z_gq (by first | omega | (simp [hI_sI, hI_sF, hI_sR, hI_nw, hI_ff, hI_fl, hI_cp]; try omega)) ?_
        | refine z_iq rfl (by first | omega | (simp [hI_sI, hI_sF, hI_sR, hI_nw, hI_ff, hI_fl, hI_cp]; try omega)) (by first | omega | (simp [hI_sI, hI_sF, hI_sR, hI_nw, hI_ff, hI_fl, hI_cp]; try omega)) ?_
      refine w_takeRest ⟨t0, t1, t2⟩ ⟨o0, o1, o2⟩ hne ha hb hN r (i + 1) D' u' c' s' _ (Nat.le_trans hx hf.2) ?_ ?_ (cRw_f hf (by omega) (fun b _ _ => by omega) hw2) hK' (by omega) (by omega) g1 (by omega) (by omega) (fun q hq => hv q (List.mem_cons_of_mem _ hq)) (fun v m1 m2 => g4 v (fA_tr hf (fA_wk m1 (fun x z => ?_))) m2)
      · rw [(hf.1 o (by omega) 0).2.2]
        exact hr
      · rw [(hf.1 o (by omega) 1).1]
        exact hn
      · have := hf.2
        omega
    have keep : (b ≤ a ∨ qe p ≤ a ∨ b ≤ q3 p) → ¬ i = g → wp (wpm (d + 2)) cd_X4_takeRest Q 67 [vR t, vR o, vI a, vI b, vI g, vI i, vR y] [] u c s := by
      intro hc hg
      rw [if_neg hg, if_pos hc] at h3 h
      simp at h3
      refine run [(114, [])] 60 ?_
      repeat first
        | refine z_gq (by first | omega | (simp [hI_sI, hI_sF, hI_sR, hI_nw, hI_ff, hI_fl, hI_cp]; try omega)) ?_
        | refine z_iq rfl (by first | omega | (simp [hI_sI, hI_sF, hI_sR, hI_nw, hI_ff, hI_fl, hI_cp]; try omega)) (by first | omega | (simp [hI_sI, hI_sF, hI_sR, hI_nw, hI_ff, hI_fl, hI_cp]; try omega)) ?_
        | refine z_kq (t0) ?_
      refine k_append ⟨t0, t1, t2⟩ hK (by omega) y2 (fun u' m1 m2 m3 => ?_)
      refine step (D ++ [p]) u' c s (fA_wk m1 (fun x => by omega)) m3 (by simp; omega) (by omega) (by omega) (fun v n1 n2 => h v n1 ?_)
      rw [List.append_assoc] at n2
      exact n2
    refine run [(16, []), (67, []), (95, []), (114, [])] 60 ?_
    repeat first
      | refine z_gq (by first | omega | (simp [hI_sI, hI_sF, hI_sR, hI_nw, hI_ff, hI_fl, hI_cp]; try omega)) ?_
      | refine z_iq rfl (by first | omega | (simp [hI_sI, hI_sF, hI_sR, hI_nw, hI_ff, hI_fl, hI_cp]; try omega)) (by first | omega | (simp [hI_sI, hI_sF, hI_sR, hI_nw, hI_ff, hI_fl, hI_cp]; try omega)) ?_
      | refine z_kq (o0) ?_
    refine z_bq (fun hz => ?_) (fun hz => by omega)
    repeat first
      | refine z_gq (by first | omega | (simp [hI_sI, hI_sF, hI_sR, hI_nw, hI_ff, hI_fl, hI_cp]; try omega)) ?_
      | refine z_iq rfl (by first | omega | (simp [hI_sI, hI_sF, hI_sR, hI_nw, hI_ff, hI_fl, hI_cp]; try omega)) (by first | omega | (simp [hI_sI, hI_sF, hI_sR, hI_nw, hI_ff, hI_fl, hI_cp]; try omega)) ?_
      | refine z_kq (o0) ?_
      | refine z_iq (o1) (by first | omega | (simp [hI_sI, hI_sF, hI_sR, hI_nw, hI_ff, hI_fl, hI_cp]; try omega)) (by first | omega | (simp [hI_sI, hI_sF, hI_sR, hI_nw, hI_ff, hI_fl, hI_cp]; try omega)) ?_
      | refine z_dq (hr) ?_
      | refine z_dq (y1) ?_
    refine z_bq (fun hg => ?_) (fun hg => ?_)
    · rw [if_pos hg] at h3 h
      exact step D u c s (fA_rfl _ u) hK (by omega) (by omega) (by omega) h
    · refine z_bq (fun hab => ?_) (fun hab => ?_)
      · repeat first
          | refine z_gq (by first | omega | (simp [hI_sI, hI_sF, hI_sR, hI_nw, hI_ff, hI_fl, hI_cp]; try omega)) ?_
          | refine z_iq rfl (by first | omega | (simp [hI_sI, hI_sF, hI_sR, hI_nw, hI_ff, hI_fl, hI_cp]; try omega)) (by first | omega | (simp [hI_sI, hI_sF, hI_sR, hI_nw, hI_ff, hI_fl, hI_cp]; try omega)) ?_
          | refine z_kq (ky) ?_
        refine k_end y2 vp ?_
        refine z_bq (fun hc => ?_) (fun hc => ?_)
        · repeat first
            | refine z_gq (by first | omega | (simp [hI_sI, hI_sF, hI_sR, hI_nw, hI_ff, hI_fl, hI_cp]; try omega)) ?_
            | refine z_iq rfl (by first | omega | (simp [hI_sI, hI_sF, hI_sR, hI_nw, hI_ff, hI_fl, hI_cp]; try omega)) (by first | omega | (simp [hI_sI, hI_sF, hI_sR, hI_nw, hI_ff, hI_fl, hI_cp]; try omega)) ?_
            | refine z_kq (ky) ?_
          refine z_bq (fun hd => ?_) (fun hd => ?_)
          · have hcc : ¬ (b ≤ a ∨ qe p ≤ a ∨ b ≤ q3 p) := by omega
            rw [if_neg hg, if_neg hcc] at h3 h
            have tail : ∀ (D' : List Sp) (u' : aS) (c' s' : Nat), fA (fun x => x = t ∨ x = t + 1 ∨ nx u ≤ x) u u' → cTk u' t (D', sh) → D'.length + ((if b < qe p then [(i, frm p b)] else []) ++ rs a b g (en (i + 1) r)).length ≤ 14 → 2 * r.length + 1 ≤ c' → 14 * r.length + 7 ≤ s' → (∀ v, fA (fun x => x = t ∨ x = t + 1 ∨ nx u ≤ x) u v → cTk v t (D' ++ ((if b < qe p then [(i, frm p b)] else []) ++ rs a b g (en (i + 1) r)).map Prod.snd, sh) → Q none v) → wp (wpm (d + 2)) cd_X4_takeRest Q 95 [vR t, vR o, vI a, vI b, vI g, vI i, vR y] [] u' c' s' := by
              intro D' u' c' s' hf hK' g1 g2 g3 g4
              have y3 : cSp u' y p := cSp_f hf (by have := y2.1; omega) y2
              refine run [(114, [])] 60 ?_
              repeat first
                | refine z_gq (by first | omega | (simp [hI_sI, hI_sF, hI_sR, hI_nw, hI_ff, hI_fl, hI_cp]; try omega)) ?_
                | refine z_iq rfl (by first | omega | (simp [hI_sI, hI_sF, hI_sR, hI_nw, hI_ff, hI_fl, hI_cp]; try omega)) (by first | omega | (simp [hI_sI, hI_sF, hI_sR, hI_nw, hI_ff, hI_fl, hI_cp]; try omega)) ?_
                | refine z_kq (ky) ?_
              refine k_end y3 vp ?_
              refine z_bq (fun he => ?_) (fun he => ?_)
              · rw [if_pos (show b < qe p by omega)] at g1 g4
                simp at g1
                repeat first
                  | refine z_gq (by first | omega | (simp [hI_sI, hI_sF, hI_sR, hI_nw, hI_ff, hI_fl, hI_cp]; try omega)) ?_
                  | refine z_iq rfl (by first | omega | (simp [hI_sI, hI_sF, hI_sR, hI_nw, hI_ff, hI_fl, hI_cp]; try omega)) (by first | omega | (simp [hI_sI, hI_sF, hI_sR, hI_nw, hI_ff, hI_fl, hI_cp]; try omega)) ?_
                  | refine z_kq (ky) ?_
                refine z_cq (c' := c' - 1) (by omega) ?_
                refine z_cq (c' := s' - 7) (by omega) ?_
                refine k_frm y3 vp hb (fun u2 m1 m2 m3 => ?_)
                have hK2 : cTk u2 t (D', sh) := cTk_f m1 (by have := hf.2; omega) (by have := hf.2; omega) (fun b _ _ => by omega) hK'
                repeat first
                  | refine z_gq (by first | omega | (simp [hI_sI, hI_sF, hI_sR, hI_nw, hI_ff, hI_fl, hI_cp]; try omega)) ?_
                  | refine z_iq rfl (by first | omega | (simp [hI_sI, hI_sF, hI_sR, hI_nw, hI_ff, hI_fl, hI_cp]; try omega)) (by first | omega | (simp [hI_sI, hI_sF, hI_sR, hI_nw, hI_ff, hI_fl, hI_cp]; try omega)) ?_
                  | refine z_kq (t0) ?_
                refine k_append ⟨t0, t1, t2⟩ hK2 (by omega) m3 (fun u3 n1 n2 n3 => ?_)
                refine step (D' ++ [frm p b]) u3 _ _ (fA_tr hf (fA_tr (fA_wk m1 (fun x z => by have := hf.2; omega)) (fA_wk n1 (fun x => by omega)))) n3 (by simp; omega) (by omega) (by omega) (fun v w1 w2 => g4 v w1 ?_)
                rw [List.append_assoc] at w2
                exact w2
              · rw [if_neg (show ¬ b < qe p by omega)] at g1 g4
                exact step D' u' c' s' hf hK' g1 (by omega) (by omega) g4
            repeat first
              | refine z_gq (by first | omega | (simp [hI_sI, hI_sF, hI_sR, hI_nw, hI_ff, hI_fl, hI_cp]; try omega)) ?_
              | refine z_iq rfl (by first | omega | (simp [hI_sI, hI_sF, hI_sR, hI_nw, hI_ff, hI_fl, hI_cp]; try omega)) (by first | omega | (simp [hI_sI, hI_sF, hI_sR, hI_nw, hI_ff, hI_fl, hI_cp]; try omega)) ?_
              | refine z_kq (ky) ?_
            refine z_bq (fun he => ?_) (fun he => ?_)
            · rw [if_pos (show q3 p < a by omega)] at h3 h
              simp only [List.cons_append, List.nil_append, List.length_cons] at h3
              repeat first
                | refine z_gq (by first | omega | (simp [hI_sI, hI_sF, hI_sR, hI_nw, hI_ff, hI_fl, hI_cp]; try omega)) ?_
                | refine z_iq rfl (by first | omega | (simp [hI_sI, hI_sF, hI_sR, hI_nw, hI_ff, hI_fl, hI_cp]; try omega)) (by first | omega | (simp [hI_sI, hI_sF, hI_sR, hI_nw, hI_ff, hI_fl, hI_cp]; try omega)) ?_
                | refine z_kq (ky) ?_
              refine z_cq (c' := c - 1) (by omega) ?_
              refine z_cq (c' := s - 7) (by omega) ?_
              refine k_ahd y2 vp ha (fun u2 m1 m2 m3 => ?_)
              have hK2 : cTk u2 t (D, sh) := cTk_f m1 (by omega) (by omega) (fun b _ _ => by omega) hK
              repeat first
                | refine z_gq (by first | omega | (simp [hI_sI, hI_sF, hI_sR, hI_nw, hI_ff, hI_fl, hI_cp]; try omega)) ?_
                | refine z_iq rfl (by first | omega | (simp [hI_sI, hI_sF, hI_sR, hI_nw, hI_ff, hI_fl, hI_cp]; try omega)) (by first | omega | (simp [hI_sI, hI_sF, hI_sR, hI_nw, hI_ff, hI_fl, hI_cp]; try omega)) ?_
                | refine z_kq (t0) ?_
              refine k_append ⟨t0, t1, t2⟩ hK2 (by omega) m3 (fun u3 n1 n2 n3 => ?_)
              refine tail (D ++ [ahd p a]) u3 _ _ (fA_tr (fA_wk m1 (fun x => by omega)) (fA_wk n1 (fun x => by omega))) n3 (by rw [List.length_append]; simp only [List.length_cons, List.length_nil]; omega) (by omega) (by omega) (fun v w1 w2 => h v w1 ?_)
              rw [List.append_assoc] at w2
              exact w2
            · rw [if_neg (show ¬ q3 p < a by omega)] at h3 h
              exact tail D u c s (fA_rfl _ u) hK h3 (by omega) (by omega) h
          · exact keep (by omega) hg
        · exact keep (by omega) hg
      · exact keep (by omega) hg
theorem k_takeRest {d : Nat} {t o : Nat} {a b g : Int} {K : Tk} {u : aS} {Q : aQ} (ht : isTp t) (ho : isTp o) (hne : ¬ t = o ∧ ¬ t = o + 1 ∧ ¬ t + 1 = o) (ha : 0 ≤ a ∧ a ≤ 128) (hb : 0 ≤ b ∧ b ≤ 128) (hx : 156 ≤ nx u) (h0 : cT0 u t) (hK : cTk u o K) (hl : K.1.length ≤ 12) (hv : ∀ p, p ∈ K.1 → vP p) (hr : (rs a b g (en 0 K.1)).length ≤ 14) (h : ∀ u', fA (fun x => x = t ∨ x = t + 1 ∨ nx u ≤ x) u u' → cTk u' t ((rs a b g (en 0 K.1)).map Prod.snd, K.2) → Q none u') : wpm (d + 3) M_X4_takeRest [vR t, vR o, vI a, vI b, vI g] u Q := by
  have t0 := ht.1
  have o0 := ho.1
  have e2 : hI (sI u t 1 0) o 2 = K.2 := by
    rw [hI_sI, if_neg (by omega)]
    exact hK.2.2.1
  refine e_X4_takeRest rfl (run [(16, [])] 60 ?_)
  repeat first
    | refine z_gq (by first | omega | (simp [hI_sI, hI_sF, hI_sR, hI_nw, hI_ff, hI_fl, hI_cp]; try omega)) ?_
    | refine z_iq rfl (by first | omega | (simp [hI_sI, hI_sF, hI_sR, hI_nw, hI_ff, hI_fl, hI_cp]; try omega)) (by first | omega | (simp [hI_sI, hI_sF, hI_sR, hI_nw, hI_ff, hI_fl, hI_cp]; try omega)) ?_
    | refine z_kq (t0) ?_
    | refine z_kq (o0) ?_
  rw [e2]
  have hf : fA (fun x => x = t) u (sI (sI u t 1 0) t 2 K.2) := fA_tr (fA_sI _ _ _ rfl) (fA_sI _ _ _ rfl)
  refine w_takeRest (N := K.1.length) (sh := K.2) ht ho hne ha hb (by omega) K.1 0 [] _ 24 168 _ hx hK.1.1 ?_ (cRw_f hf (by omega) (fun b b0 b1 => by have := ht.2.2; omega) (cRw_0 hK)) ⟨h0, ?_, ?_, fun i p hp => by simp at hp⟩ (by omega) (by omega) (by simpa using hr) (by omega) (by omega) hv (fun u' m1 m2 => h u' (fA_tr (fA_wk hf (fun x => by omega)) m1) m2)
  · rw [hI_sI, if_neg (by omega), hI_sI, if_neg (by omega)]
    exact hK.2.1
  · rw [hI_sI, if_neg (by omega), hI_sI, if_pos ⟨rfl, rfl⟩]
    rfl
  · rw [hI_sI, if_pos ⟨rfl, rfl⟩]
theorem w_copyOf {d : Nat} {Q : aQ} {t o : Nat} (ht : isTp t) (ho : isTp o) (hne : ¬ t = o ∧ ¬ t = o + 1 ∧ ¬ t + 1 = o) {u0 : aS} (h0 : hR u0 t 0 = some (t + 1)) (h1 : cT0 u0 o) {c s : Nat} (h : ∀ u', fA (fun a => a = t + 1) u0 u' → nx u' = nx u0 → (∀ j, 0 ≤ j → j < 14 → hR u' (t + 1) j = hR u0 (o + 1) j) → Q none u') : ∀ (n : Nat) (i : Int) (u : aS), i + n = 14 → 0 ≤ i → fA (fun a => a = t + 1) u0 u → nx u = nx u0 → (∀ j, 0 ≤ j → j < i → hR u (t + 1) j = hR u0 (o + 1) j) → wp (wpm d) cd_X4_copyOf Q 18 [vR t, vR o, vI i] [] u c s
  | 0, i, u, e1, e2, hf, hn, hj => by
    refine run [(18, [])] 60 ?_
    refine z_bq (fun hz => by omega) (fun hz => ?_)
    have e : i = 14 := by omega
    subst e
    exact h u hf hn hj
  | n + 1, i, u, e1, e2, hf, hn, hj => by
    obtain ⟨t0, t1, t2⟩ := ht
    obtain ⟨o0, o1, o2⟩ := ho
    have z1 : hR u t 0 = some (t + 1) := (hf.1 t (by omega) 0).2.2.trans h0
    have z2 : hR u o 0 = some (o + 1) := (hf.1 o (by omega) 0).2.2.trans h1.1
    have z3 : hR u (o + 1) i = hR u0 (o + 1) i := (hf.1 (o + 1) (by omega) i).2.2
    refine run [(18, [])] 60 ?_
    refine z_bq (fun hz => ?_) (fun hz => by omega)
    repeat first
      | refine z_gq (by first | omega | (simp [hI_sI, hI_sF, hI_sR, hI_nw, hI_ff, hI_fl, hI_cp]; try omega)) ?_
      | refine z_iq rfl (by first | omega | (simp [hI_sI, hI_sF, hI_sR, hI_nw, hI_ff, hI_fl, hI_cp]; try omega)) (by first | omega | (simp [hI_sI, hI_sF, hI_sR, hI_nw, hI_ff, hI_fl, hI_cp]; try omega)) ?_
      | refine z_kq (t0) ?_
      | refine z_kq (o0) ?_
      | refine z_iq (t1) (by first | omega | (simp [hI_sI, hI_sF, hI_sR, hI_nw, hI_ff, hI_fl, hI_cp]; try omega)) (by first | omega | (simp [hI_sI, hI_sF, hI_sR, hI_nw, hI_ff, hI_fl, hI_cp]; try omega)) ?_
      | refine z_iq (o1) (by first | omega | (simp [hI_sI, hI_sF, hI_sR, hI_nw, hI_ff, hI_fl, hI_cp]; try omega)) (by first | omega | (simp [hI_sI, hI_sF, hI_sR, hI_nw, hI_ff, hI_fl, hI_cp]; try omega)) ?_
      | refine z_dq (z1) ?_
      | refine z_dq (z2) ?_
      | refine z_dq (z3) ?_
    refine z_rq (fun b hb => kd_s1 (h1.2 i b e2 (by omega) hb).1) ?_
    repeat first
      | refine z_gq (by first | omega | (simp [hI_sI, hI_sF, hI_sR, hI_nw, hI_ff, hI_fl, hI_cp]; try omega)) ?_
      | refine z_iq rfl (by first | omega | (simp [hI_sI, hI_sF, hI_sR, hI_nw, hI_ff, hI_fl, hI_cp]; try omega)) (by first | omega | (simp [hI_sI, hI_sF, hI_sR, hI_nw, hI_ff, hI_fl, hI_cp]; try omega)) ?_
    refine w_copyOf ⟨t0, t1, t2⟩ ⟨o0, o1, o2⟩ hne h0 h1 h n (i + 1) _ (by omega) (by omega) (fA_tr hf (fA_sR _ _ _ rfl)) hn (fun j j0 j1 => ?_)
    rw [hR_sR]
    by_cases e : j = i
    · rw [if_pos ⟨rfl, e⟩, e]
    · rw [if_neg (fun z => e z.2)]
      exact hj j j0 (by omega)
theorem k_copyOf {d : Nat} {t o : Nat} {K : Tk} {u : aS} {Q : aQ} (ht : isTp t) (ho : isTp o) (hne : ¬ t = o ∧ ¬ t = o + 1 ∧ ¬ t + 1 = o) (h0 : cT0 u t) (hK : cTk u o K) (hl : K.1.length ≤ 14) (h : ∀ u', fA (fun a => a = t ∨ a = t + 1) u u' → nx u' = nx u → cTk u' t K → Q none u') : wpm (d + 1) M_X4_copyOf [vR t, vR o] u Q := by
  have t0 := ht.1
  have o0 := ho.1
  have e1 : hI u o 1 = K.1.length := hK.2.1
  have e2 : hI (sI u t 1 K.1.length) o 2 = K.2 := by
    rw [hI_sI, if_neg (by omega)]
    exact hK.2.2.1
  refine e_X4_copyOf rfl (run [(18, [])] 60 ?_)
  repeat first
    | refine z_gq (by first | omega | (simp [hI_sI, hI_sF, hI_sR, hI_nw, hI_ff, hI_fl, hI_cp]; try omega)) ?_
    | refine z_iq rfl (by first | omega | (simp [hI_sI, hI_sF, hI_sR, hI_nw, hI_ff, hI_fl, hI_cp]; try omega)) (by first | omega | (simp [hI_sI, hI_sF, hI_sR, hI_nw, hI_ff, hI_fl, hI_cp]; try omega)) ?_
    | refine z_kq (t0) ?_
    | refine z_kq (o0) ?_
  rw [e1, e2]
  have hf : fA (fun x => x = t) u (sI (sI u t 1 K.1.length) t 2 K.2) := fA_tr (fA_sI _ _ _ rfl) (fA_sI _ _ _ rfl)
  refine w_copyOf (u0 := sI (sI u t 1 K.1.length) t 2 K.2) ht ho hne h0.1 hK.1 (fun u' m1 m2 m3 => ?_) 14 0 _ (by omega) (by omega) (fA_rfl _ _) rfl (fun j j0 j1 => by omega)
  have hF : fA (fun a => a = t ∨ a = t + 1) u u' := fA_tr (fA_wk hf (fun x => by omega)) (fA_wk m1 (fun x => by omega))
  refine h u' hF m2 ⟨⟨?_, fun i b i0 i1 e => ?_⟩, ?_, ?_, fun i p hp => ?_⟩
  · rw [(m1.1 t (by omega) 0).2.2]
    exact h0.1
  · rw [m3 i i0 i1] at e
    have g := hK.1.2 i b i0 i1 e
    have m2' : nx u' = nx u := m2
    omega
  · rw [(m1.1 t (by omega) 1).1, hI_sI, if_neg (by omega), hI_sI, if_pos ⟨rfl, rfl⟩]
  · rw [(m1.1 t (by omega) 2).1, hI_sI, if_pos ⟨rfl, rfl⟩]
  · have hi := get_lt hp
    obtain ⟨b, b1, b2⟩ := hK.2.2.2 i p hp
    refine ⟨b, ?_, cSp_f hF (by have := b2.1; have := ht.2.2; omega) b2⟩
    rw [m3 _ (by omega) (by omega)]
    exact b1
theorem w_indexAt {d : Nat} {Q : aQ} {o : Nat} {x N : Int} {u : aS} (ho : isTp o) (hr : hR u o 0 = some (o + 1)) (hn : hI u o 1 = N) (hN : N ≤ 14) {c s : Nat} : ∀ (r : List Sp) (i : Int), cRw u o i r → i + r.length = N → 0 ≤ i → (∀ p, p ∈ r → vP p) → Q (some (vI (oR (en i r) x))) u → wp (wpm (d + 1)) cd_X4_indexAt Q 2 [vR o, vI x, vI i] [] u c s
  | [], i, hw, h1, h2, hv, h => by
    simp at h1
    refine run [(2, [])] 60 ?_
    repeat first
      | refine z_gq (by first | omega | (simp [hI_sI, hI_sF, hI_sR, hI_nw, hI_ff, hI_fl, hI_cp]; try omega)) ?_
      | refine z_iq rfl (by first | omega | (simp [hI_sI, hI_sF, hI_sR, hI_nw, hI_ff, hI_fl, hI_cp]; try omega)) (by first | omega | (simp [hI_sI, hI_sF, hI_sR, hI_nw, hI_ff, hI_fl, hI_cp]; try omega)) ?_
      | refine z_kq (ho.1) ?_
    refine z_bq (fun hz => by omega) (fun hz => ?_)
    exact h
  | p :: r, i, hw, h1, h2, hv, h => by
    obtain ⟨⟨y, y1, y2⟩, hw2⟩ := cRw_c hw
    have ky := kd_s1 y2.1.1
    have vp := hv p (List.mem_cons_self ..)
    have vp' := vp
    unfold vP at vp'
    have e3 : hI u y 3 = q3 p := y2.2.2.2.2.1
    have eq : qe p = q3 p + q2 p := rfl
    simp at h1
    obtain ⟨o0, o1, o2⟩ := ho
    have h' : Q (some (vI (if q3 p ≤ x ∧ x < qe p then i else oR (en (i + 1) r) x))) u := h
    refine run [(2, [])] 60 ?_
    repeat first
      | refine z_gq (by first | omega | (simp [hI_sI, hI_sF, hI_sR, hI_nw, hI_ff, hI_fl, hI_cp]; try omega)) ?_
      | refine z_iq rfl (by first | omega | (simp [hI_sI, hI_sF, hI_sR, hI_nw, hI_ff, hI_fl, hI_cp]; try omega)) (by first | omega | (simp [hI_sI, hI_sF, hI_sR, hI_nw, hI_ff, hI_fl, hI_cp]; try omega)) ?_
      | refine z_kq (o0) ?_
    refine z_bq (fun hz => ?_) (fun hz => by omega)
    repeat first
      | refine z_gq (by first | omega | (simp [hI_sI, hI_sF, hI_sR, hI_nw, hI_ff, hI_fl, hI_cp]; try omega)) ?_
      | refine z_iq rfl (by first | omega | (simp [hI_sI, hI_sF, hI_sR, hI_nw, hI_ff, hI_fl, hI_cp]; try omega)) (by first | omega | (simp [hI_sI, hI_sF, hI_sR, hI_nw, hI_ff, hI_fl, hI_cp]; try omega)) ?_
      | refine z_kq (o0) ?_
      | refine z_iq (o1) (by first | omega | (simp [hI_sI, hI_sF, hI_sR, hI_nw, hI_ff, hI_fl, hI_cp]; try omega)) (by first | omega | (simp [hI_sI, hI_sF, hI_sR, hI_nw, hI_ff, hI_fl, hI_cp]; try omega)) ?_
      | refine z_dq (hr) ?_
      | refine z_dq (y1) ?_
      | refine z_kq (ky) ?_
    refine k_end y2 vp ?_
    repeat first
      | refine z_gq (by first | omega | (simp [hI_sI, hI_sF, hI_sR, hI_nw, hI_ff, hI_fl, hI_cp]; try omega)) ?_
      | refine z_iq rfl (by first | omega | (simp [hI_sI, hI_sF, hI_sR, hI_nw, hI_ff, hI_fl, hI_cp]; try omega)) (by first | omega | (simp [hI_sI, hI_sF, hI_sR, hI_nw, hI_ff, hI_fl, hI_cp]; try omega)) ?_
    refine k_within (fun a0 a1 => ?_) (fun a0 => ?_)
    · rw [if_pos (by omega)] at h'
      exact h'
    · rw [if_neg (by omega)] at h'
      repeat first
        | refine z_gq (by first | omega | (simp [hI_sI, hI_sF, hI_sR, hI_nw, hI_ff, hI_fl, hI_cp]; try omega)) ?_
        | refine z_iq rfl (by first | omega | (simp [hI_sI, hI_sF, hI_sR, hI_nw, hI_ff, hI_fl, hI_cp]; try omega)) (by first | omega | (simp [hI_sI, hI_sF, hI_sR, hI_nw, hI_ff, hI_fl, hI_cp]; try omega)) ?_
      exact w_indexAt ⟨o0, o1, o2⟩ hr hn hN r (i + 1) hw2 (by omega) (by omega) (fun q hq => hv q (List.mem_cons_of_mem _ hq)) h'
theorem k_indexAt {d : Nat} {o : Nat} {x : Int} {K : Tk} {u : aS} {Q : aQ} (ho : isTp o) (hK : cTk u o K) (hl : K.1.length ≤ 12) (hv : ∀ p, p ∈ K.1 → vP p) (h : Q (some (vI (oR (en 0 K.1) x))) u) : wpm (d + 2) M_X4_indexAt [vR o, vI x] u Q := by
  refine e_X4_indexAt rfl (run [(2, [])] 60 ?_)
  exact w_indexAt ho hK.1.1 hK.2.1 (by omega) K.1 0 (cRw_0 hK) (by omega) (by omega) hv h
