/-! tracks: the calls of the class, the rest -/
theorem k_allows {d : Nat} {y : Nat} {p : Sp} {a b : Int} {u : aS} {Q : aQ} (hy : cSp u y p) (hv : vP p) (h1 : 0 ≤ a → 0 ≤ b → a + b ≤ q2 p → Q (some (vI 1)) u) (h0 : ¬ (0 ≤ a ∧ 0 ≤ b ∧ a + b ≤ q2 p) → Q (some (vI 0)) u) : wpm (d + 2) M_X3_allowsFades [vR y, vI a, vI b] u Q := by
  have ky := kd_s1 hy.1.1
  have e2 : hI u y 2 = q2 p := hy.2.2.2.1
  unfold vP at hv
  refine e_X3_allowsFades rfl (run [] 60 ?_)
  repeat first
    | refine z_gq (by first | omega | (simp [hI_sI, hI_sF, hI_sR, hI_nw, hI_ff, hI_fl, hI_cp]; try omega)) ?_
    | refine z_iq rfl (by first | omega | (simp [hI_sI, hI_sF, hI_sR, hI_nw, hI_ff, hI_fl, hI_cp]; try omega)) (by first | omega | (simp [hI_sI, hI_sF, hI_sR, hI_nw, hI_ff, hI_fl, hI_cp]; try omega)) ?_
    | refine z_kq (ky) ?_
  refine k_within (fun a0 a1 => ?_) (fun a0 => ?_)
  · repeat first
      | refine z_gq (by first | omega | (simp [hI_sI, hI_sF, hI_sR, hI_nw, hI_ff, hI_fl, hI_cp]; try omega)) ?_
      | refine z_iq rfl (by first | omega | (simp [hI_sI, hI_sF, hI_sR, hI_nw, hI_ff, hI_fl, hI_cp]; try omega)) (by first | omega | (simp [hI_sI, hI_sF, hI_sR, hI_nw, hI_ff, hI_fl, hI_cp]; try omega)) ?_
      | refine z_kq (ky) ?_
    refine k_within (fun b0 b1 => ?_) (fun b0 => ?_)
    · exact h1 a0 b0 (by omega)
    · exact h0 (by omega)
  · exact h0 (by omega)
theorem k_fade {d : Nat} {k i a b : Int} {u : aS} {Q : aQ} {A : Al} (hA : cA u A) (hV : vTr A.2.2.2.1) (h : ∀ u', cA u' (A.1, A.2.1, A.2.2.1, (oFade A.2.2.2.1 k i a b).2, A.2.2.2.2) → fC u u' → Q (some (vI (oFade A.2.2.2.1 k i a b).1)) u') : wpm (d + 4) M_X7_fade [vR 8, vI k, vI i, vI a, vI b] u Q := by
  have hS := hA.1
  have hx := hA.2.1
  unfold oFade at h
  refine e_X7_fade rfl (run [] 100 ?_)
  refine k_isSpan hA hV (fun k0 k1 i0 i1 => ?_) (fun hn => ?_)
  · rw [if_neg (by omega)] at h
    have hT := hA.2.2.2.2.2.1 k k0 k1
    obtain ⟨a0, a1, p0, p1, p2, p3, hW⟩ := hA.2.2.2.2.2.1 k k0 k1
    have hB := isB_k k0 k1
    have kB := hB.k0
    have vk := hV.now k0 k1
    have tp0 := hB.tp hW.1.2.2.2.1.1
    have ka := tp0.1
    have ka1 := tp0.2.1
    have l12 := vk.1.2.1
    have z1 := hW.2.1.1.1
    obtain ⟨y, y1, y2⟩ := cTk_get hW.2.1 i0 (spA_get i0 i1)
    have ky := kd_s1 y2.1.1
    have vp := vP_sp vk.1 i0 i1
    repeat first
      | refine z_gq (by first | omega | (simp [hI_sI, hI_sF, hI_sR, hI_nw, hI_ff, hI_fl, hI_cp]; try omega)) ?_
      | refine z_iq rfl (by first | omega | (simp [hI_sI, hI_sF, hI_sR, hI_nw, hI_ff, hI_fl, hI_cp]; try omega)) (by first | omega | (simp [hI_sI, hI_sF, hI_sR, hI_nw, hI_ff, hI_fl, hI_cp]; try omega)) ?_
      | refine z_dq (hS.tracks) ?_
      | refine z_dq (hS.track k0 k1) ?_
      | refine z_kq (kB) ?_
      | refine z_dq (hW.1.1.1) ?_
      | refine z_kq (ka) ?_
      | refine z_dq (z1) ?_
      | refine z_iq (ka1) (by first | omega | (simp [hI_sI, hI_sF, hI_sR, hI_nw, hI_ff, hI_fl, hI_cp]; try omega)) (by first | omega | (simp [hI_sI, hI_sF, hI_sR, hI_nw, hI_ff, hI_fl, hI_cp]; try omega)) ?_
      | refine z_dq (y1) ?_
      | refine z_kq (ky) ?_
    refine k_allows y2 vp (fun w0 w1 w2 => ?_) (fun w0 => ?_)
    · rw [if_neg (by omega)] at h
      repeat first
        | refine z_gq (by first | omega | (simp [hI_sI, hI_sF, hI_sR, hI_nw, hI_ff, hI_fl, hI_cp]; try omega)) ?_
        | refine z_iq rfl (by first | omega | (simp [hI_sI, hI_sF, hI_sR, hI_nw, hI_ff, hI_fl, hI_cp]; try omega)) (by first | omega | (simp [hI_sI, hI_sF, hI_sR, hI_nw, hI_ff, hI_fl, hI_cp]; try omega)) ?_
        | refine z_dq (hS.tracks) ?_
        | refine z_dq (hS.track k0 k1) ?_
        | refine z_kq (ky) ?_
      refine z_cq (c' := 0) rfl ?_
      refine z_cq (c' := 0) rfl ?_
      refine k_faded y2 (fun u1 m1 m2 m3 => ?_)
      have hT1 : cT1 u1 (50 + 20 * k.toNat) (A.2.2.2.1 k) := cT1_f m1 (fun a a0 a1 => by omega) (fun b _ _ => by omega) hT
      repeat first
        | refine z_gq (by first | omega | (simp [hI_sI, hI_sF, hI_sR, hI_nw, hI_ff, hI_fl, hI_cp]; try omega)) ?_
        | refine z_iq rfl (by first | omega | (simp [hI_sI, hI_sF, hI_sR, hI_nw, hI_ff, hI_fl, hI_cp]; try omega)) (by first | omega | (simp [hI_sI, hI_sF, hI_sR, hI_nw, hI_ff, hI_fl, hI_cp]; try omega)) ?_
        | refine z_kq (kB) ?_
      refine k_replace hB hT1 (by omega) l12 i0 i1 m3 (fun u2 n1 n2 => ?_)
      have hF : fA (fun a => pT (50 + 20 * k.toNat) a ∨ nx u ≤ a) u u2 := fA_tr (fA_wk m1 (fun a ha => Or.inr (by omega))) (fA_wk n1 (fun a ha => ha.elim Or.inl (fun z => Or.inr (by omega))))
      have y3 : cSp u2 y _ := cSp_f hF (by have := y2.1; unfold pT; omega) y2
      repeat first
        | refine z_gq (by first | omega | (simp [hI_sI, hI_sF, hI_sR, hI_nw, hI_ff, hI_fl, hI_cp]; try omega)) ?_
        | refine z_iq rfl (by first | omega | (simp [hI_sI, hI_sF, hI_sR, hI_nw, hI_ff, hI_fl, hI_cp]; try omega)) (by first | omega | (simp [hI_sI, hI_sF, hI_sR, hI_nw, hI_ff, hI_fl, hI_cp]; try omega)) ?_
        | refine z_kq (ky) ?_
      refine q_eq (h u2 (cA_tr hA k0 k1 hF n2) (fC_pT hB hx hF)) y3.2.2.2.2.2.2.1
    · rw [if_pos w0] at h
      exact h u hA (fC_rfl u)
  · rw [if_pos hn] at h
    exact h u hA (fC_rfl u)
theorem k_gain {d : Nat} {k i g : Int} {u : aS} {Q : aQ} {A : Al} (hA : cA u A) (hV : vTr A.2.2.2.1) (h : ∀ u', cA u' (A.1, A.2.1, A.2.2.1, (oGain A.2.2.2.1 k i g).2, A.2.2.2.2) → fC u u' → Q (some (vI (oGain A.2.2.2.1 k i g).1)) u') : wpm (d + 4) M_X7_gain [vR 8, vI k, vI i, vI g] u Q := by
  have hS := hA.1
  have hx := hA.2.1
  unfold oGain at h
  refine e_X7_gain rfl (run [] 100 ?_)
  refine k_isSpan hA hV (fun k0 k1 i0 i1 => ?_) (fun hn => ?_)
  · rw [if_neg (by omega)] at h
    have hT := hA.2.2.2.2.2.1 k k0 k1
    obtain ⟨a0, a1, p0, p1, p2, p3, hW⟩ := hA.2.2.2.2.2.1 k k0 k1
    have hB := isB_k k0 k1
    have kB := hB.k0
    have vk := hV.now k0 k1
    have tp0 := hB.tp hW.1.2.2.2.1.1
    have ka := tp0.1
    have ka1 := tp0.2.1
    have l12 := vk.1.2.1
    have z1 := hW.2.1.1.1
    obtain ⟨y, y1, y2⟩ := cTk_get hW.2.1 i0 (spA_get i0 i1)
    have ky := kd_s1 y2.1.1
    refine k_within (fun g0 g1 => ?_) (fun g0 => ?_)
    · rw [if_neg (by omega)] at h
      repeat first
        | refine z_gq (by first | omega | (simp [hI_sI, hI_sF, hI_sR, hI_nw, hI_ff, hI_fl, hI_cp]; try omega)) ?_
        | refine z_iq rfl (by first | omega | (simp [hI_sI, hI_sF, hI_sR, hI_nw, hI_ff, hI_fl, hI_cp]; try omega)) (by first | omega | (simp [hI_sI, hI_sF, hI_sR, hI_nw, hI_ff, hI_fl, hI_cp]; try omega)) ?_
        | refine z_dq (hS.tracks) ?_
        | refine z_dq (hS.track k0 k1) ?_
        | refine z_kq (kB) ?_
        | refine z_dq (hW.1.1.1) ?_
        | refine z_kq (ka) ?_
        | refine z_dq (z1) ?_
        | refine z_iq (ka1) (by first | omega | (simp [hI_sI, hI_sF, hI_sR, hI_nw, hI_ff, hI_fl, hI_cp]; try omega)) (by first | omega | (simp [hI_sI, hI_sF, hI_sR, hI_nw, hI_ff, hI_fl, hI_cp]; try omega)) ?_
        | refine z_dq (y1) ?_
        | refine z_kq (ky) ?_
      refine z_cq (c' := 0) rfl ?_
      refine z_cq (c' := 0) rfl ?_
      refine k_louder y2 (fun u1 m1 m2 m3 => ?_)
      have hT1 : cT1 u1 (50 + 20 * k.toNat) (A.2.2.2.1 k) := cT1_f m1 (fun a a0 a1 => by omega) (fun b _ _ => by omega) hT
      repeat first
        | refine z_gq (by first | omega | (simp [hI_sI, hI_sF, hI_sR, hI_nw, hI_ff, hI_fl, hI_cp]; try omega)) ?_
        | refine z_iq rfl (by first | omega | (simp [hI_sI, hI_sF, hI_sR, hI_nw, hI_ff, hI_fl, hI_cp]; try omega)) (by first | omega | (simp [hI_sI, hI_sF, hI_sR, hI_nw, hI_ff, hI_fl, hI_cp]; try omega)) ?_
        | refine z_kq (kB) ?_
      refine k_replace hB hT1 (by omega) l12 i0 i1 m3 (fun u2 n1 n2 => ?_)
      have hF : fA (fun a => pT (50 + 20 * k.toNat) a ∨ nx u ≤ a) u u2 := fA_tr (fA_wk m1 (fun a ha => Or.inr (by omega))) (fA_wk n1 (fun a ha => ha.elim Or.inl (fun z => Or.inr (by omega))))
      have y3 : cSp u2 y _ := cSp_f hF (by have := y2.1; unfold pT; omega) y2
      repeat first
        | refine z_gq (by first | omega | (simp [hI_sI, hI_sF, hI_sR, hI_nw, hI_ff, hI_fl, hI_cp]; try omega)) ?_
        | refine z_iq rfl (by first | omega | (simp [hI_sI, hI_sF, hI_sR, hI_nw, hI_ff, hI_fl, hI_cp]; try omega)) (by first | omega | (simp [hI_sI, hI_sF, hI_sR, hI_nw, hI_ff, hI_fl, hI_cp]; try omega)) ?_
        | refine z_kq (ky) ?_
      refine q_eq (h u2 (cA_tr hA k0 k1 hF n2) (fC_pT hB hx hF)) y3.2.2.2.2.2.1
    · rw [if_pos g0] at h
      exact h u hA (fC_rfl u)
  · rw [if_pos hn] at h
    exact h u hA (fC_rfl u)
theorem k_move {d : Nat} {k i t : Int} {u : aS} {Q : aQ} {A : Al} (hA : cA u A) (hV : vTr A.2.2.2.1) (h : ∀ u', cA u' (A.1, A.2.1, A.2.2.1, (oMove A.2.2.2.1 k i t).2, A.2.2.2.2) → fC u u' → Q (some (vI (oMove A.2.2.2.1 k i t).1)) u') : wpm (d + 5) M_X7_move [vR 8, vI k, vI i, vI t] u Q := by
  have hS := hA.1
  have hx := hA.2.1
  unfold oMove at h
  refine e_X7_move rfl (run [] 100 ?_)
  refine k_isSpan hA hV (fun k0 k1 i0 i1 => ?_) (fun hn => ?_)
  · rw [if_neg (by omega)] at h
    have hT := hA.2.2.2.2.2.1 k k0 k1
    obtain ⟨a0, a1, p0, p1, p2, p3, hW⟩ := hA.2.2.2.2.2.1 k k0 k1
    have hB := isB_k k0 k1
    have kB := hB.k0
    have vk := hV.now k0 k1
    have tp0 := hB.tp hW.1.2.2.2.1.1
    have ka := tp0.1
    have ka1 := tp0.2.1
    have l12 := vk.1.2.1
    have z1 := hW.2.1.1.1
    obtain ⟨y, y1, y2⟩ := cTk_get hW.2.1 i0 (spA_get i0 i1)
    have ky := kd_s1 y2.1.1
    have vp := vP_sp vk.1 i0 i1
    have vp' := vp
    unfold vP at vp'
    have e2 : hI u y 2 = q2 (spA (A.2.2.2.1 k).1.1 i) := y2.2.2.2.1
    repeat first
      | refine z_gq (by first | omega | (simp [hI_sI, hI_sF, hI_sR, hI_nw, hI_ff, hI_fl, hI_cp]; try omega)) ?_
      | refine z_iq rfl (by first | omega | (simp [hI_sI, hI_sF, hI_sR, hI_nw, hI_ff, hI_fl, hI_cp]; try omega)) (by first | omega | (simp [hI_sI, hI_sF, hI_sR, hI_nw, hI_ff, hI_fl, hI_cp]; try omega)) ?_
      | refine z_dq (hS.tracks) ?_
      | refine z_dq (hS.track k0 k1) ?_
      | refine z_kq (kB) ?_
      | refine z_dq (hW.1.1.1) ?_
      | refine z_kq (ka) ?_
      | refine z_dq (z1) ?_
      | refine z_iq (ka1) (by first | omega | (simp [hI_sI, hI_sF, hI_sR, hI_nw, hI_ff, hI_fl, hI_cp]; try omega)) (by first | omega | (simp [hI_sI, hI_sF, hI_sR, hI_nw, hI_ff, hI_fl, hI_cp]; try omega)) ?_
      | refine z_dq (y1) ?_
      | refine z_kq (ky) ?_
    refine k_isPlaceFor (fun w0 w1 => ?_) (fun w0 => ?_)
    · rw [if_neg (by omega)] at h
      repeat first
        | refine z_gq (by first | omega | (simp [hI_sI, hI_sF, hI_sR, hI_nw, hI_ff, hI_fl, hI_cp]; try omega)) ?_
        | refine z_iq rfl (by first | omega | (simp [hI_sI, hI_sF, hI_sR, hI_nw, hI_ff, hI_fl, hI_cp]; try omega)) (by first | omega | (simp [hI_sI, hI_sF, hI_sR, hI_nw, hI_ff, hI_fl, hI_cp]; try omega)) ?_
        | refine z_dq (hS.tracks) ?_
        | refine z_dq (hS.track k0 k1) ?_
        | refine z_kq (ky) ?_
      refine z_cq (c' := 24) rfl ?_
      refine z_cq (c' := 168) rfl ?_
      refine k_movedTo y2 (fun u1 m1 m2 m3 => ?_)
      have hT1 : cT1 u1 (50 + 20 * k.toNat) (A.2.2.2.1 k) := cT1_f m1 (fun a a0 a1 => by omega) (fun b _ _ => by omega) hT
      have hf1 : fA (fun a => pT (50 + 20 * k.toNat) a ∨ nx u ≤ a) u u1 := fA_wk m1 (fun a ha => Or.inr (by omega))
      have vm : vP (mvd (spA (A.2.2.2.1 k).1.1 i) t) := by
        show (0 ≤ q0 (spA (A.2.2.2.1 k).1.1 i) ∧ _) ∧ _ ∧ (0 ≤ t ∧ t + q2 (spA (A.2.2.2.1 k).1.1 i) ≤ 128) ∧ _
        exact ⟨vp'.1, vp'.2.1, ⟨w1.1, by omega⟩, vp'.2.2.2⟩
      repeat first
        | refine z_gq (by first | omega | (simp [hI_sI, hI_sF, hI_sR, hI_nw, hI_ff, hI_fl, hI_cp]; try omega)) ?_
        | refine z_iq rfl (by first | omega | (simp [hI_sI, hI_sF, hI_sR, hI_nw, hI_ff, hI_fl, hI_cp]; try omega)) (by first | omega | (simp [hI_sI, hI_sF, hI_sR, hI_nw, hI_ff, hI_fl, hI_cp]; try omega)) ?_
        | refine z_kq (kB) ?_
      refine z_cq (c' := 0) rfl ?_
      refine z_cq (c' := 0) rfl ?_
      unfold lyT at h
      refine k_lay hB hT1 (by omega) vk.1 vm m3 (fun hz u2 n1 n2 => ?_) (fun hz u2 n1 n2 => ?_)
      · rw [if_pos hz] at h
        have hF : fA (fun a => pT (50 + 20 * k.toNat) a ∨ nx u ≤ a) u u2 := fA_tr hf1 (fA_wk n1 (fun a ha => ha.elim Or.inl (fun z => Or.inr (by omega))))
        exact h u2 (cA_tr0 hA k0 k1 hF n2) (fC_pT hB hx hF)
      · rw [if_neg (by omega)] at h
        have hF : fA (fun a => pT (50 + 20 * k.toNat) a ∨ nx u ≤ a) u u2 := fA_tr hf1 (fA_wk n1 (fun a ha => ha.elim Or.inl (fun z => Or.inr (by omega))))
        have hA2 := cA_tr hA k0 k1 hF n2
        have hS2 := hA2.1
        obtain ⟨a0, a1, p0, p1, p2, p3, hW⟩ := n2
        have ka := (hB.tp hW.1.2.2.2.1.1).1
        repeat first
          | refine z_gq (by first | omega | (simp [hI_sI, hI_sF, hI_sR, hI_nw, hI_ff, hI_fl, hI_cp]; try omega)) ?_
          | refine z_iq rfl (by first | omega | (simp [hI_sI, hI_sF, hI_sR, hI_nw, hI_ff, hI_fl, hI_cp]; try omega)) (by first | omega | (simp [hI_sI, hI_sF, hI_sR, hI_nw, hI_ff, hI_fl, hI_cp]; try omega)) ?_
          | refine z_dq (hS2.tracks) ?_
          | refine z_dq (hS2.track k0 k1) ?_
          | refine z_kq (kB) ?_
          | refine z_dq (hW.1.1.1) ?_
          | refine z_kq (ka) ?_
        refine q_eq (h u2 hA2 (fC_pT hB hx hF)) ?_
        have e := hW.2.1.2.1
        simp at e
        exact e
    · rw [if_pos (by omega)] at h
      exact h u hA (fC_rfl u)
  · rw [if_pos hn] at h
    exact h u hA (fC_rfl u)
theorem k_shift {d : Nat} {k n : Int} {u : aS} {Q : aQ} {A : Al} (hA : cA u A) (hV : vTr A.2.2.2.1) (h : ∀ u', cA u' (A.1, A.2.1, A.2.2.1, (oShift A.2.2.2.1 k n).2, A.2.2.2.2) → fC u u' → Q (some (vI (oShift A.2.2.2.1 k n).1)) u') : wpm (d + 4) M_X7_shift [vR 8, vI k, vI n] u Q := by
  have hS := hA.1
  have hx := hA.2.1
  unfold oShift at h
  refine e_X7_shift rfl (run [] 100 ?_)
  refine k_isTrack (fun k0 k1 => ?_) (fun k0 => ?_)
  · rw [if_neg (by omega)] at h
    refine k_within (fun n0 n1 => ?_) (fun n0 => ?_)
    · rw [if_neg (by omega)] at h
      have hT := hA.2.2.2.2.2.1 k k0 k1
      obtain ⟨a0, a1, p0, p1, p2, p3, hW⟩ := hA.2.2.2.2.2.1 k k0 k1
      have hB := isB_k k0 k1
      have kB := hB.k0
      have ka := (hB.tp hW.1.2.2.2.1.1).1
      repeat first
        | refine z_gq (by first | omega | (simp [hI_sI, hI_sF, hI_sR, hI_nw, hI_ff, hI_fl, hI_cp]; try omega)) ?_
        | refine z_iq rfl (by first | omega | (simp [hI_sI, hI_sF, hI_sR, hI_nw, hI_ff, hI_fl, hI_cp]; try omega)) (by first | omega | (simp [hI_sI, hI_sF, hI_sR, hI_nw, hI_ff, hI_fl, hI_cp]; try omega)) ?_
        | refine z_dq (hS.tracks) ?_
        | refine z_dq (hS.track k0 k1) ?_
        | refine z_kq (kB) ?_
        | refine z_dq (hW.1.1.1) ?_
        | refine z_kq (ka) ?_
      refine k_shiftTo hB hT hx (hV.len k0 k1) (fun u2 m1 m2 => ?_)
      refine q_eq (h u2 (cA_tr hA k0 k1 m1 m2) (fC_pT hB hx m1)) hW.2.1.2.2.1
    · rw [if_pos (by omega)] at h
      exact h u hA (fC_rfl u)
  · rw [if_pos (by omega)] at h
    exact h u hA (fC_rfl u)
theorem k_shut {d : Nat} {k : Int} {u : aS} {Q : aQ} {A : Al} (hA : cA u A) (hV : vTr A.2.2.2.1) (h : ∀ u', cA u' (A.1, A.2.1, A.2.2.1, (oShut A.2.2.2.1 k).2, A.2.2.2.2) → fC u u' → Q (some (vI (oShut A.2.2.2.1 k).1)) u') : wpm (d + 3) M_X7_shut [vR 8, vI k] u Q := by
  have hS := hA.1
  have hx := hA.2.1
  unfold oShut at h
  refine e_X7_shut rfl (run [(30, []), (33, [])] 100 ?_)
  refine k_isTrack (fun k0 k1 => ?_) (fun k0 => ?_)
  · rw [if_neg (by omega)] at h
    obtain ⟨a0, a1, p0, p1, p2, p3, hW⟩ := hA.2.2.2.2.2.1 k k0 k1
    have hB := isB_k k0 k1
    have kB := hB.k0
    have hl := hB.le
    have vs := (hV k k0 k1).2.2
    have e4 : hI u (50 + 20 * k.toNat) 4 = (A.2.2.2.1 k).2.2 := hW.2.2.2.2
    have key : ∀ v : Int, v = 1 - (A.2.2.2.1 k).2.2 → wp (wpm (d + 2)) cd_X7_shut Q 30 [vR 8, vI k, vR (50 + 20 * k.toNat)] [vI v, vR (50 + 20 * k.toNat)] u 0 0 := by
      intro v ev
      have hf : fA (fun x => x = 50 + 20 * k.toNat ∨ x = 50 + 20 * k.toNat + 5) u (sI u (50 + 20 * k.toNat) 4 v) := fA_sI _ _ _ (by omega)
      have hW2 := cW_p (K := ((A.2.2.2.1 k).1, (A.2.2.2.1 k).2.1, v)) hB hf ⟨hW.1.1, hW.1.2.1⟩ hW.1.2.2.1 hW.1.2.2.2 hW.2.1 hW.2.2.1 (by rw [hI_sI, if_neg (by omega)]; exact hW.2.2.2.1) (by rw [hI_sI, if_pos ⟨rfl, rfl⟩])
      have hF : fA (fun a => pT (50 + 20 * k.toNat) a ∨ nx u ≤ a) u (sI u (50 + 20 * k.toNat) 4 v) := fA_wk hf (fun x z => pT_b z)
      have hA2 := cA_tr hA k0 k1 hF ⟨a0, a1, p0, p1, p2, p3, hW2⟩
      rw [← ev] at h
      have g := h _ hA2 (fC_pT hB hx hF)
      have er : hI (sI u (50 + 20 * k.toNat) 4 v) (50 + 20 * k.toNat) 4 = v := by rw [hI_sI, if_pos ⟨rfl, rfl⟩]
      refine run [] 60 ?_
      repeat first
        | refine z_gq (by first | omega | (simp [hI_sI, hI_sF, hI_sR, hI_nw, hI_ff, hI_fl, hI_cp]; try omega)) ?_
        | refine z_iq rfl (by first | omega | (simp [hI_sI, hI_sF, hI_sR, hI_nw, hI_ff, hI_fl, hI_cp]; try omega)) (by first | omega | (simp [hI_sI, hI_sF, hI_sR, hI_nw, hI_ff, hI_fl, hI_cp]; try omega)) ?_
        | refine z_kq (kB) ?_
        | refine z_0q (by omega) ?_
      refine z_bq (fun hz => ?_) (fun hz => ?_)
      · exact q_eq g (by show 0 = v; omega)
      · exact q_eq g (by show 1 = v; omega)
    repeat first
      | refine z_gq (by first | omega | (simp [hI_sI, hI_sF, hI_sR, hI_nw, hI_ff, hI_fl, hI_cp]; try omega)) ?_
      | refine z_iq rfl (by first | omega | (simp [hI_sI, hI_sF, hI_sR, hI_nw, hI_ff, hI_fl, hI_cp]; try omega)) (by first | omega | (simp [hI_sI, hI_sF, hI_sR, hI_nw, hI_ff, hI_fl, hI_cp]; try omega)) ?_
      | refine z_dq (hS.tracks) ?_
      | refine z_dq (hS.track k0 k1) ?_
      | refine z_kq (kB) ?_
    refine z_bq (fun hz => ?_) (fun hz => ?_)
    · exact key 1 (by omega)
    · exact key 0 (by omega)
  · rw [if_pos (by omega)] at h
    exact h u hA (fC_rfl u)
theorem k_undo {d : Nat} {k : Int} {u : aS} {Q : aQ} {A : Al} (hA : cA u A) (h : ∀ u', cA u' (A.1, A.2.1, A.2.2.1, (oUndo A.2.2.2.1 k).2, A.2.2.2.2) → fC u u' → Q (some (vI (oUndo A.2.2.2.1 k).1)) u') : wpm (d + 3) M_X7_undo [vR 8, vI k] u Q := by
  have hS := hA.1
  have hx := hA.2.1
  unfold oUndo at h
  refine e_X7_undo rfl (run [] 100 ?_)
  refine k_isTrack (fun k0 k1 => ?_) (fun k0 => ?_)
  · rw [if_neg (by omega)] at h
    obtain ⟨a0, a1, p0, p1, p2, p3, hW⟩ := hA.2.2.2.2.2.1 k k0 k1
    have hB := isB_k k0 k1
    have kB := hB.k0
    repeat first
      | refine z_gq (by first | omega | (simp [hI_sI, hI_sF, hI_sR, hI_nw, hI_ff, hI_fl, hI_cp]; try omega)) ?_
      | refine z_iq rfl (by first | omega | (simp [hI_sI, hI_sF, hI_sR, hI_nw, hI_ff, hI_fl, hI_cp]; try omega)) (by first | omega | (simp [hI_sI, hI_sF, hI_sR, hI_nw, hI_ff, hI_fl, hI_cp]; try omega)) ?_
      | refine z_dq (hS.tracks) ?_
      | refine z_dq (hS.track k0 k1) ?_
      | refine z_kq (kB) ?_
    refine k_goBack hB hW (fun he => ?_) (fun t l he u2 m1 m2 m3 => ?_)
    · rw [he] at h
      exact h u hA (fC_rfl u)
    · rw [he] at h
      have hF : fA (fun a => pT (50 + 20 * k.toNat) a ∨ nx u ≤ a) u u2 := fA_wk m1 (fun x z => pT_b z)
      have hA2 := cA_tr hA k0 k1 hF ⟨_, _, _, _, _, _, m3⟩
      have hS2 := hA2.1
      repeat first
        | refine z_gq (by first | omega | (simp [hI_sI, hI_sF, hI_sR, hI_nw, hI_ff, hI_fl, hI_cp]; try omega)) ?_
        | refine z_iq rfl (by first | omega | (simp [hI_sI, hI_sF, hI_sR, hI_nw, hI_ff, hI_fl, hI_cp]; try omega)) (by first | omega | (simp [hI_sI, hI_sF, hI_sR, hI_nw, hI_ff, hI_fl, hI_cp]; try omega)) ?_
        | refine z_dq (hS2.tracks) ?_
        | refine z_dq (hS2.track k0 k1) ?_
        | refine z_kq (kB) ?_
      exact q_eq (h u2 hA2 (fC_pT hB hx hF)) m3.2.2.2.1
  · rw [if_pos (by omega)] at h
    exact h u hA (fC_rfl u)
