/-! tracks: the calls of the class -/
def fC (u u' : aS) : Prop := fA (fun a => (a = 19 ∨ 50 ≤ a ∧ a ≤ 129) ∨ 156 ≤ a) u u'
theorem fC_rfl (u : aS) : fC u u := fA_rfl _ u
theorem fC_pT {u u' : aS} {B : Nat} (hB : isB B) (hx : 156 ≤ nx u) (hf : fA (fun a => pT B a ∨ nx u ≤ a) u u') : fC u u' := fA_wk hf (fun a ha => by
  have := hB.le
  unfold pT at ha
  omega)
theorem up_self (T : Tr) (k : Int) : upT T k (T k) = T := by
  funext j
  unfold upT
  by_cases e : j = k
  · rw [if_pos e, e]
  · rw [if_neg e]
theorem cA_tr0 {u u' : aS} {A : Al} {k : Int} (hA : cA u A) (k0 : 0 ≤ k) (k1 : k ≤ 3) (hf : fA (fun a => pT (50 + 20 * k.toNat) a ∨ nx u ≤ a) u u') (h : cT1 u' (50 + 20 * k.toNat) (A.2.2.2.1 k)) : cA u' A := by
  have := cA_tr hA k0 k1 hf h
  rw [up_self] at this
  exact this
theorem cTk_set {u : aS} {t b : Nat} {K : Tk} {i : Int} {p : Sp} (hK : cTk u t K) (h0 : 0 ≤ i) (h1 : i < K.1.length) (h2 : t + 1 < 156) (hb : cSp u b p) : cTk (sR u (t + 1) i (some b)) t (stL K.1 i p, K.2) := by
  obtain ⟨⟨z1, z2⟩, z3, z4, z5⟩ := hK
  refine ⟨⟨by rw [hR_sR, if_neg (by omega)]; exact z1, fun j c j0 j1 e => ?_⟩, ?_, z4, fun j q hq => ?_⟩
  · rw [hR_sR] at e
    by_cases e1 : j = i
    · rw [if_pos ⟨rfl, e1⟩] at e
      have : b = c := by simpa using e
      subst this
      exact hb.1
    · rw [if_neg (fun z => e1 z.2)] at e
      exact z2 j c j0 j1 e
  · show hI u t 1 = ((K.1.set i.toNat p).length : Int)
    rw [List.length_set]
    exact z3
  · have hq' : (K.1.set i.toNat p)[j]? = some q := hq
    rw [List.getElem?_set] at hq'
    by_cases e : i.toNat = j
    · rw [if_pos e, if_pos (by omega)] at hq'
      have e1 : p = q := by simpa using hq'
      refine ⟨b, ?_, e1 ▸ hb⟩
      rw [hR_sR, if_pos ⟨rfl, by omega⟩]
    · rw [if_neg e] at hq'
      obtain ⟨c, c1, c2⟩ := z5 j q hq'
      refine ⟨c, ?_, c2⟩
      rw [hR_sR, if_neg (by omega)]
      exact c1
theorem k_replace {d : Nat} {B b : Nat} {K : Tk × List Tk × Int} {i : Int} {p : Sp} {u : aS} {Q : aQ} (hB : isB B) (hT : cT1 u B K) (hx : 156 ≤ nx u) (hl : K.1.1.length ≤ 12) (i0 : 0 ≤ i) (i1 : i < K.1.1.length) (hb : cSp u b p) (h : ∀ u', fA (fun a => pT B a ∨ nx u ≤ a) u u' → cT1 u' B ((stL K.1.1 i p, K.1.2), hst K.1 K.2.1, K.2.2) → Q none u') : wpm (d + 3) M_X6_replace [vR B, vI i, vR b] u Q := by
  obtain ⟨a0, a1, p0, p1, p2, p3, hW⟩ := hT
  have hW : cW u B a0 a1 p0 p1 p2 p3 K := hW
  have kB := hB.k0
  have kb := kd_s1 hb.1.1
  have r0 := hW.1.1.1
  have r1 := hW.1.1.2.1
  have tt := hW.1.2.2.2
  have ta0 := tt.1.1
  have ta1 := tt.1.2.1
  have tp0 := hB.tp ta0
  have tp1 := hB.tp ta1
  have nn : ¬ a1 = a0 := fun z => tt.2.1.1 z.symm
  have hl0 := hB.le
  have b1 := tA_b ta1
  have k1 := tp1.1
  have k11 := tp1.2.1
  refine e_X6_replace rfl (run [] 60 ?_)
  repeat first
    | refine z_gq (by first | omega | (simp [hI_sI, hI_sF, hI_sR, hI_nw, hI_ff, hI_fl, hI_cp]; try omega)) ?_
    | refine z_iq rfl (by first | omega | (simp [hI_sI, hI_sF, hI_sR, hI_nw, hI_ff, hI_fl, hI_cp]; try omega)) (by first | omega | (simp [hI_sI, hI_sF, hI_sR, hI_nw, hI_ff, hI_fl, hI_cp]; try omega)) ?_
    | refine z_kq (kB) ?_
    | refine z_dq (r1) ?_
    | refine z_dq (r0) ?_
    | refine z_kq (k1) ?_
  refine k_copyOf tp1 tp0 ⟨nn, tA_n ta1 ta0 nn⟩ hW.1.2.2.1.2.1 hW.2.1 (by omega) (fun u1 m1 m2 m3 => ?_)
  have m1' : fA (fun x => x = a1 ∨ x = a1 + 1 ∨ nx u ≤ x) u u1 := fA_wk m1 (fun x => by omega)
  have hW1 := cW_d hB hW hx m1' m3.1
  have hb1 : cSp u1 b p := cSp_f m1 (by have := hb.1; omega) hb
  have r1a := hW1.1.1.2.1
  have z1 := m3.1.1
  have z3 : hI u1 a1 1 = K.1.1.length := m3.2.1
  repeat first
    | refine z_gq (by first | omega | (simp [hI_sI, hI_sF, hI_sR, hI_nw, hI_ff, hI_fl, hI_cp]; try omega)) ?_
    | refine z_iq rfl (by first | omega | (simp [hI_sI, hI_sF, hI_sR, hI_nw, hI_ff, hI_fl, hI_cp]; try omega)) (by first | omega | (simp [hI_sI, hI_sF, hI_sR, hI_nw, hI_ff, hI_fl, hI_cp]; try omega)) ?_
    | refine z_kq (kB) ?_
    | refine z_dq (r1a) ?_
    | refine z_kq (k1) ?_
  refine k_within (fun w0 w1 => ?_) (fun w0 => by omega)
  repeat first
    | refine z_gq (by first | omega | (simp [hI_sI, hI_sF, hI_sR, hI_nw, hI_ff, hI_fl, hI_cp]; try omega)) ?_
    | refine z_iq rfl (by first | omega | (simp [hI_sI, hI_sF, hI_sR, hI_nw, hI_ff, hI_fl, hI_cp]; try omega)) (by first | omega | (simp [hI_sI, hI_sF, hI_sR, hI_nw, hI_ff, hI_fl, hI_cp]; try omega)) ?_
    | refine z_kq (kB) ?_
    | refine z_dq (r1a) ?_
    | refine z_kq (k1) ?_
    | refine z_dq (z1) ?_
    | refine z_iq (k11) (by first | omega | (simp [hI_sI, hI_sF, hI_sR, hI_nw, hI_ff, hI_fl, hI_cp]; try omega)) (by first | omega | (simp [hI_sI, hI_sF, hI_sR, hI_nw, hI_ff, hI_fl, hI_cp]; try omega)) ?_
    | refine z_kq (kb) ?_
  have m3b := cTk_set m3 i0 i1 (by omega) hb1
  have n1 : fA (fun x => x = a1 ∨ x = a1 + 1 ∨ nx u1 ≤ x) u1 (sR u1 (a1 + 1) i (some b)) := fA_sR _ _ _ (by omega)
  have hW2 := cW_d hB hW1 (by omega) n1 m3b.1
  refine k_accept hB hW2 m3b (by show (K.1.1.set i.toNat p).length ≤ 14; rw [List.length_set]; omega) (fun hz => ?_) (fun hz u3 w1 w2 w3 => ?_)
  · have hz' : 12 < (K.1.1.set i.toNat p).length := hz
    rw [List.length_set] at hz'
    omega
  · exact h u3 (fA_tr (fA_wk m1' (fun x z => pT_t hB ta1 (Nat.le_refl _) z)) (fA_tr (fA_wk n1 (fun x z => pT_t hB ta1 m1.2 z)) (fA_wk w1 (fun x z => pT_b z)))) ⟨a1, p3, a0, p0, p1, p2, w3⟩
theorem k_shiftTo {d : Nat} {B : Nat} {K : Tk × List Tk × Int} {n : Int} {u : aS} {Q : aQ} (hB : isB B) (hT : cT1 u B K) (hx : 156 ≤ nx u) (hl : K.1.1.length ≤ 12) (h : ∀ u', fA (fun a => pT B a ∨ nx u ≤ a) u u' → cT1 u' B ((K.1.1, n), hst K.1 K.2.1, K.2.2) → Q none u') : wpm (d + 3) M_X6_shiftTo [vR B, vI n] u Q := by
  obtain ⟨a0, a1, p0, p1, p2, p3, hW⟩ := hT
  have hW : cW u B a0 a1 p0 p1 p2 p3 K := hW
  have kB := hB.k0
  have r0 := hW.1.1.1
  have r1 := hW.1.1.2.1
  have tt := hW.1.2.2.2
  have ta0 := tt.1.1
  have ta1 := tt.1.2.1
  have tp0 := hB.tp ta0
  have tp1 := hB.tp ta1
  have nn : ¬ a1 = a0 := fun z => tt.2.1.1 z.symm
  have hl0 := hB.le
  have b1 := tA_b ta1
  have k1 := tp1.1
  refine e_X6_shiftTo rfl (run [] 60 ?_)
  repeat first
    | refine z_gq (by first | omega | (simp [hI_sI, hI_sF, hI_sR, hI_nw, hI_ff, hI_fl, hI_cp]; try omega)) ?_
    | refine z_iq rfl (by first | omega | (simp [hI_sI, hI_sF, hI_sR, hI_nw, hI_ff, hI_fl, hI_cp]; try omega)) (by first | omega | (simp [hI_sI, hI_sF, hI_sR, hI_nw, hI_ff, hI_fl, hI_cp]; try omega)) ?_
    | refine z_kq (kB) ?_
    | refine z_dq (r1) ?_
    | refine z_dq (r0) ?_
    | refine z_kq (k1) ?_
  refine k_copyOf tp1 tp0 ⟨nn, tA_n ta1 ta0 nn⟩ hW.1.2.2.1.2.1 hW.2.1 (by omega) (fun u1 m1 m2 m3 => ?_)
  have m1' : fA (fun x => x = a1 ∨ x = a1 + 1 ∨ nx u ≤ x) u u1 := fA_wk m1 (fun x => by omega)
  have hW1 := cW_d hB hW hx m1' m3.1
  have r1a := hW1.1.1.2.1
  repeat first
    | refine z_gq (by first | omega | (simp [hI_sI, hI_sF, hI_sR, hI_nw, hI_ff, hI_fl, hI_cp]; try omega)) ?_
    | refine z_iq rfl (by first | omega | (simp [hI_sI, hI_sF, hI_sR, hI_nw, hI_ff, hI_fl, hI_cp]; try omega)) (by first | omega | (simp [hI_sI, hI_sF, hI_sR, hI_nw, hI_ff, hI_fl, hI_cp]; try omega)) ?_
    | refine z_kq (kB) ?_
    | refine z_dq (r1a) ?_
    | refine z_kq (k1) ?_
  have n1 : fA (fun x => x = a1 ∨ x = a1 + 1 ∨ nx u1 ≤ x) u1 (sI u1 a1 2 n) := fA_sI _ _ _ (by omega)
  have m3b : cTk (sI u1 a1 2 n) a1 (K.1.1, n) := by
    obtain ⟨y1, y2, y3, y4⟩ := m3
    refine ⟨y1, ?_, ?_, fun j q hq => ?_⟩
    · rw [hI_sI, if_neg (by omega)]
      exact y2
    · rw [hI_sI, if_pos ⟨rfl, rfl⟩]
    · obtain ⟨c, c1, c2⟩ := y4 j q hq
      exact ⟨c, c1, cSp_f n1 (by have := c2.1; omega) c2⟩
  have hW2 := cW_d hB hW1 (by omega) n1 m3b.1
  refine k_accept hB hW2 m3b (by show K.1.1.length ≤ 14; omega) (fun hz => ?_) (fun hz u3 w1 w2 w3 => ?_)
  · have hz' : 12 < K.1.1.length := hz
    omega
  · exact h u3 (fA_tr (fA_wk m1' (fun x z => pT_t hB ta1 (Nat.le_refl _) z)) (fA_tr (fA_wk n1 (fun x z => pT_t hB ta1 m1.2 z)) (fA_wk w1 (fun x z => pT_b z)))) ⟨a1, p3, a0, p0, p1, p2, w3⟩
/-! the face -/
theorem k_isSound {d : Nat} {s : Int} {u : aS} {Q : aQ} {A : Al} (hA : cA u A) (hZ : vSz A.1) (h1 : 0 ≤ s → s < A.1.1 → Q (some (vI 1)) u) (h0 : ¬ (0 ≤ s ∧ s < A.1.1) → Q (some (vI 0)) u) : wpm (d + 2) M_X7_isSound [vR 8, vI s] u Q := by
  have hS := hA.1
  have e : hI u 9 2 = A.1.1 := hA.2.2.1.1
  have v := hZ.1
  refine e_X7_isSound rfl (run [] 60 ?_)
  repeat first
    | refine z_gq (by first | omega | (simp [hI_sI, hI_sF, hI_sR, hI_nw, hI_ff, hI_fl, hI_cp]; try omega)) ?_
    | refine z_iq rfl (by first | omega | (simp [hI_sI, hI_sF, hI_sR, hI_nw, hI_ff, hI_fl, hI_cp]; try omega)) (by first | omega | (simp [hI_sI, hI_sF, hI_sR, hI_nw, hI_ff, hI_fl, hI_cp]; try omega)) ?_
    | refine z_dq (hS.sounds) ?_
  refine k_within (fun a0 a1 => ?_) (fun a0 => ?_)
  · exact h1 a0 (by omega)
  · exact h0 (by omega)
theorem k_isPlaceFor {d : Nat} {m t : Int} {u : aS} {Q : aQ} (h1 : (1 ≤ m ∧ m ≤ 64) → (0 ≤ t ∧ t ≤ 128 - m) → Q (some (vI 1)) u) (h0 : ¬ ((1 ≤ m ∧ m ≤ 64) ∧ 0 ≤ t ∧ t ≤ 128 - m) → Q (some (vI 0)) u) : wpm (d + 2) M_X7_isPlaceFor [vI m, vI t] u Q := by
  refine e_X7_isPlaceFor rfl (run [] 60 ?_)
  refine k_within (fun a0 a1 => ?_) (fun a0 => ?_)
  · repeat first
      | refine z_gq (by first | omega | (simp [hI_sI, hI_sF, hI_sR, hI_nw, hI_ff, hI_fl, hI_cp]; try omega)) ?_
      | refine z_iq rfl (by first | omega | (simp [hI_sI, hI_sF, hI_sR, hI_nw, hI_ff, hI_fl, hI_cp]; try omega)) (by first | omega | (simp [hI_sI, hI_sF, hI_sR, hI_nw, hI_ff, hI_fl, hI_cp]; try omega)) ?_
    refine k_within (fun b0 b1 => ?_) (fun b0 => ?_)
    · exact h1 ⟨a0, a1⟩ ⟨b0, b1⟩
    · exact h0 (by omega)
  · exact h0 (by omega)
theorem k_isSpan {d : Nat} {k i : Int} {u : aS} {Q : aQ} {A : Al} (hA : cA u A) (hV : vTr A.2.2.2.1) (h1 : 0 ≤ k → k ≤ 3 → 0 ≤ i → i < (A.2.2.2.1 k).1.1.length → Q (some (vI 1)) u) (h0 : ¬ ((0 ≤ k ∧ k ≤ 3) ∧ 0 ≤ i ∧ i < (A.2.2.2.1 k).1.1.length) → Q (some (vI 0)) u) : wpm (d + 3) M_X7_isSpan [vR 8, vI k, vI i] u Q := by
  have hS := hA.1
  refine e_X7_isSpan rfl (run [] 60 ?_)
  refine k_isTrack (fun k0 k1 => ?_) (fun k0 => ?_)
  · obtain ⟨a0, a1, p0, p1, p2, p3, hW⟩ := hA.2.2.2.2.2.1 k k0 k1
    have hB := isB_k k0 k1
    have kB := hB.k0
    have r0 := hW.1.1.1
    have ka := (hB.tp hW.1.2.2.2.1.1).1
    have e : hI u a0 1 = (A.2.2.2.1 k).1.1.length := hW.2.1.2.1
    have vl := hV.len k0 k1
    repeat first
      | refine z_gq (by first | omega | (simp [hI_sI, hI_sF, hI_sR, hI_nw, hI_ff, hI_fl, hI_cp]; try omega)) ?_
      | refine z_iq rfl (by first | omega | (simp [hI_sI, hI_sF, hI_sR, hI_nw, hI_ff, hI_fl, hI_cp]; try omega)) (by first | omega | (simp [hI_sI, hI_sF, hI_sR, hI_nw, hI_ff, hI_fl, hI_cp]; try omega)) ?_
      | refine z_dq (hS.tracks) ?_
      | refine z_dq (hS.track k0 k1) ?_
      | refine z_kq (kB) ?_
      | refine z_dq (r0) ?_
      | refine z_kq (ka) ?_
    refine k_within (fun b0 b1 => ?_) (fun b0 => ?_)
    · exact h1 k0 k1 b0 (by omega)
    · exact h0 (by omega)
  · exact h0 (by omega)
theorem k_put {d : Nat} {k s f m t : Int} {u : aS} {Q : aQ} {A : Al} (hA : cA u A) (hZ : vSz A.1) (hV : vTr A.2.2.2.1) (h : ∀ u', cA u' (A.1, A.2.1, A.2.2.1, (oPut A.1 A.2.2.2.1 k s f m t).2, A.2.2.2.2) → fC u u' → Q (some (vI (oPut A.1 A.2.2.2.1 k s f m t).1)) u') : wpm (d + 5) M_X7_put [vR 8, vI k, vI s, vI f, vI m, vI t] u Q := by
  have hS := hA.1
  have hx := hA.2.1
  have v := hZ.1
  unfold oPut at h
  refine e_X7_put rfl (run [] 100 ?_)
  refine k_isTrack (fun k0 k1 => ?_) (fun k0 => ?_)
  · refine k_isSound hA hZ (fun s0 s1 => ?_) (fun s0 => ?_)
    · rw [if_neg (by omega)] at h
      have es : hI u 17 s = A.1.2.1 s := hA.2.2.1.2.1 s s0 (by omega)
      have vs := hZ.2 s s0 (by omega)
      repeat first
        | refine z_gq (by first | omega | (simp [hI_sI, hI_sF, hI_sR, hI_nw, hI_ff, hI_fl, hI_cp]; try omega)) ?_
        | refine z_iq rfl (by first | omega | (simp [hI_sI, hI_sF, hI_sR, hI_nw, hI_ff, hI_fl, hI_cp]; try omega)) (by first | omega | (simp [hI_sI, hI_sF, hI_sR, hI_nw, hI_ff, hI_fl, hI_cp]; try omega)) ?_
        | refine z_dq (hS.sounds) ?_
        | refine z_dq (hS.lengths) ?_
      refine k_within (fun f0 f1 => ?_) (fun f0 => ?_)
      · refine k_isPlaceFor (fun m0 t0 => ?_) (fun m0 => ?_)
        · repeat first
            | refine z_gq (by first | omega | (simp [hI_sI, hI_sF, hI_sR, hI_nw, hI_ff, hI_fl, hI_cp]; try omega)) ?_
            | refine z_iq rfl (by first | omega | (simp [hI_sI, hI_sF, hI_sR, hI_nw, hI_ff, hI_fl, hI_cp]; try omega)) (by first | omega | (simp [hI_sI, hI_sF, hI_sR, hI_nw, hI_ff, hI_fl, hI_cp]; try omega)) ?_
          refine z_bq (fun hm => ?_) (fun hm => ?_)
          · rw [if_pos (by omega)] at h
            exact h u hA (fC_rfl u)
          · rw [if_neg (by omega)] at h
            have hB := isB_k k0 k1
            have kB := hB.k0
            have vk := hV.now k0 k1
            repeat first
              | refine z_gq (by first | omega | (simp [hI_sI, hI_sF, hI_sR, hI_nw, hI_ff, hI_fl, hI_cp]; try omega)) ?_
              | refine z_iq rfl (by first | omega | (simp [hI_sI, hI_sF, hI_sR, hI_nw, hI_ff, hI_fl, hI_cp]; try omega)) (by first | omega | (simp [hI_sI, hI_sF, hI_sR, hI_nw, hI_ff, hI_fl, hI_cp]; try omega)) ?_
              | refine z_dq (hS.tracks) ?_
              | refine z_dq (hS.track k0 k1) ?_
            refine ⟨kd_sp hx, ?_⟩
            refine z_cq (c' := 24) rfl ?_
            refine z_cq (c' := 168) rfl ?_
            repeat first
              | refine z_gq (by first | omega | (simp [hI_sI, hI_sF, hI_sR, hI_nw, hI_ff, hI_fl, hI_cp]; try omega)) ?_
              | refine z_iq rfl (by first | omega | (simp [hI_sI, hI_sF, hI_sR, hI_nw, hI_ff, hI_fl, hI_cp]; try omega)) (by first | omega | (simp [hI_sI, hI_sF, hI_sR, hI_nw, hI_ff, hI_fl, hI_cp]; try omega)) ?_
              | refine z_kq ((kd_s1 hx)) ?_
            refine k_sinit hx ?_
            have hf1 : fA (fun a => pT (50 + 20 * k.toNat) a ∨ nx u ≤ a) u (sI (sI (sI (sI (sI (sI (sI (nw u 1) (nx u) 0 s) (nx u) 1 f) (nx u) 2 m) (nx u) 3 t) (nx u) 4 8) (nx u) 5 0) (nx u) 6 0) := fA_new u (Or.inr (Nat.le_refl _))
            have hb : cSp (sI (sI (sI (sI (sI (sI (sI (nw u 1) (nx u) 0 s) (nx u) 1 f) (nx u) 2 m) (nx u) 3 t) (nx u) 4 8) (nx u) 5 0) (nx u) 6 0) (nx u) (s, f, m, t, 8, 0, 0) := cSp_new ⟨hx, Nat.lt_succ_self _⟩ rfl rfl rfl rfl rfl rfl rfl
            have hnx : nx (sI (sI (sI (sI (sI (sI (sI (nw u 1) (nx u) 0 s) (nx u) 1 f) (nx u) 2 m) (nx u) 3 t) (nx u) 4 8) (nx u) 5 0) (nx u) 6 0) = nx u + 1 := rfl
            have hT1 : cT1 (sI (sI (sI (sI (sI (sI (sI (nw u 1) (nx u) 0 s) (nx u) 1 f) (nx u) 2 m) (nx u) 3 t) (nx u) 4 8) (nx u) 5 0) (nx u) 6 0) (50 + 20 * k.toNat) (A.2.2.2.1 k) := cT1_f (p := fun a => a = nx u) (fA_new u rfl) (fun a a0 a1 => by omega) (fun b _ _ => by omega) (hA.2.2.2.2.2.1 k k0 k1)
            generalize hu1 : sI (sI (sI (sI (sI (sI (sI (nw u 1) (nx u) 0 s) (nx u) 1 f) (nx u) 2 m) (nx u) 3 t) (nx u) 4 8) (nx u) 5 0) (nx u) 6 0 = u1 at hf1 hb hnx hT1 ⊢
            repeat first
              | refine z_gq (by first | omega | (simp [hI_sI, hI_sF, hI_sR, hI_nw, hI_ff, hI_fl, hI_cp]; try omega)) ?_
              | refine z_iq rfl (by first | omega | (simp [hI_sI, hI_sF, hI_sR, hI_nw, hI_ff, hI_fl, hI_cp]; try omega)) (by first | omega | (simp [hI_sI, hI_sF, hI_sR, hI_nw, hI_ff, hI_fl, hI_cp]; try omega)) ?_
              | refine z_kq (kB) ?_
            refine z_cq (c' := 0) rfl ?_
            refine z_cq (c' := 0) rfl ?_
            have vp : vP (s, f, m, t, 8, 0, 0) := by
              simp [vP, q0, q1, q2, q3, q4, q5, q6]
              omega
            unfold lyT at h
            refine k_lay hB hT1 (by omega) vk.1 vp hb (fun hz u2 m1 m2 => ?_) (fun hz u2 m1 m2 => ?_)
            · rw [if_pos hz] at h
              have hF : fA (fun a => pT (50 + 20 * k.toNat) a ∨ nx u ≤ a) u u2 := fA_tr hf1 (fA_wk m1 (fun a ha => ha.elim Or.inl (fun z => Or.inr (by omega))))
              exact h u2 (cA_tr0 hA k0 k1 hF m2) (fC_pT hB hx hF)
            · rw [if_neg (by omega)] at h
              have hF : fA (fun a => pT (50 + 20 * k.toNat) a ∨ nx u ≤ a) u u2 := fA_tr hf1 (fA_wk m1 (fun a ha => ha.elim Or.inl (fun z => Or.inr (by omega))))
              have hA2 := cA_tr hA k0 k1 hF m2
              obtain ⟨a0, a1, p0, p1, p2, p3, hW⟩ := m2
              have ka := (hB.tp hW.1.2.2.2.1.1).1
              repeat first
                | refine z_gq (by first | omega | (simp [hI_sI, hI_sF, hI_sR, hI_nw, hI_ff, hI_fl, hI_cp]; try omega)) ?_
                | refine z_iq rfl (by first | omega | (simp [hI_sI, hI_sF, hI_sR, hI_nw, hI_ff, hI_fl, hI_cp]; try omega)) (by first | omega | (simp [hI_sI, hI_sF, hI_sR, hI_nw, hI_ff, hI_fl, hI_cp]; try omega)) ?_
                | refine z_kq (kB) ?_
                | refine z_dq (hW.1.1.1) ?_
                | refine z_kq (ka) ?_
              refine q_eq (h u2 hA2 (fC_pT hB hx hF)) ?_
              have e := hW.2.1.2.1
              simp at e
              exact e
        · rw [if_pos (by omega)] at h
          exact h u hA (fC_rfl u)
      · rw [if_pos (by omega)] at h
        exact h u hA (fC_rfl u)
    · rw [if_pos (by omega)] at h
      exact h u hA (fC_rfl u)
  · rw [if_pos (by omega)] at h
    exact h u hA (fC_rfl u)
theorem k_wipe {d : Nat} {k a b : Int} {u : aS} {Q : aQ} {A : Al} (hA : cA u A) (hV : vTr A.2.2.2.1) (h : ∀ u', cA u' (A.1, A.2.1, A.2.2.1, (oWipe A.2.2.2.1 k a b).2, A.2.2.2.2) → fC u u' → Q (some (vI (oWipe A.2.2.2.1 k a b).1)) u') : wpm (d + 5) M_X7_wipe [vR 8, vI k, vI a, vI b] u Q := by
  have hS := hA.1
  have hx := hA.2.1
  unfold oWipe at h
  refine e_X7_wipe rfl (run [] 100 ?_)
  refine k_isTrack (fun k0 k1 => ?_) (fun k0 => ?_)
  · rw [if_neg (by omega)] at h
    refine k_isMoment (fun a0 a1 => ?_) (fun a0 => ?_)
    · refine k_within (fun b0 b1 => ?_) (fun b0 => ?_)
      · rw [if_neg (by omega)] at h
        have hB := isB_k k0 k1
        have kB := hB.k0
        have vk := hV.now k0 k1
        repeat first
          | refine z_gq (by first | omega | (simp [hI_sI, hI_sF, hI_sR, hI_nw, hI_ff, hI_fl, hI_cp]; try omega)) ?_
          | refine z_iq rfl (by first | omega | (simp [hI_sI, hI_sF, hI_sR, hI_nw, hI_ff, hI_fl, hI_cp]; try omega)) (by first | omega | (simp [hI_sI, hI_sF, hI_sR, hI_nw, hI_ff, hI_fl, hI_cp]; try omega)) ?_
          | refine z_dq (hS.tracks) ?_
          | refine z_dq (hS.track k0 k1) ?_
          | refine z_kq (kB) ?_
        refine z_cq (c' := 0) rfl ?_
        refine z_cq (c' := 0) rfl ?_
        unfold lyT at h
        refine k_clear hB (hA.2.2.2.2.2.1 k k0 k1) hx vk.1 (by omega) (by omega) (fun hz u2 m1 m2 => ?_) (fun hz u2 m1 m2 => ?_)
        · rw [if_pos hz] at h
          exact h u2 (cA_tr0 hA k0 k1 m1 m2) (fC_pT hB hx m1)
        · rw [if_neg (by omega)] at h
          have hA2 := cA_tr hA k0 k1 m1 m2
          have hS2 := hA2.1
          obtain ⟨a0, a1, p0, p1, p2, p3, hW⟩ := m2
          have ka := (hB.tp hW.1.2.2.2.1.1).1
          repeat first
            | refine z_gq (by first | omega | (simp [hI_sI, hI_sF, hI_sR, hI_nw, hI_ff, hI_fl, hI_cp]; try omega)) ?_
            | refine z_iq rfl (by first | omega | (simp [hI_sI, hI_sF, hI_sR, hI_nw, hI_ff, hI_fl, hI_cp]; try omega)) (by first | omega | (simp [hI_sI, hI_sF, hI_sR, hI_nw, hI_ff, hI_fl, hI_cp]; try omega)) ?_
            | refine z_dq (hS2.tracks) ?_
            | refine z_dq (hS2.track k0 k1) ?_
            | refine z_kq (kB) ?_
            | refine z_dq (hW.1.1.1) ?_
            | refine z_kq (ka) ?_
          refine q_eq (h u2 hA2 (fC_pT hB hx m1)) ?_
          have e := hW.2.1.2.1
          simp at e
          exact e
      · rw [if_pos (by omega)] at h
        exact h u hA (fC_rfl u)
    · rw [if_pos (by omega)] at h
      exact h u hA (fC_rfl u)
  · rw [if_pos (by omega)] at h
    exact h u hA (fC_rfl u)
theorem k_cut {d : Nat} {k x : Int} {u : aS} {Q : aQ} {A : Al} (hA : cA u A) (hV : vTr A.2.2.2.1) (h : ∀ u', cA u' (A.1, A.2.1, A.2.2.1, (oCut A.2.2.2.1 k x).2, A.2.2.2.2) → fC u u' → Q (some (vI (oCut A.2.2.2.1 k x).1)) u') : wpm (d + 5) M_X7_cut [vR 8, vI k, vI x] u Q := by
  have hS := hA.1
  have hx := hA.2.1
  unfold oCut at h
  refine e_X7_cut rfl (run [] 100 ?_)
  refine k_isTrack (fun k0 k1 => ?_) (fun k0 => ?_)
  · rw [if_neg (by omega)] at h
    refine k_within (fun a0 a1 => ?_) (fun a0 => ?_)
    · rw [if_neg (by omega)] at h
      have hB := isB_k k0 k1
      have kB := hB.k0
      have vk := hV.now k0 k1
      repeat first
        | refine z_gq (by first | omega | (simp [hI_sI, hI_sF, hI_sR, hI_nw, hI_ff, hI_fl, hI_cp]; try omega)) ?_
        | refine z_iq rfl (by first | omega | (simp [hI_sI, hI_sF, hI_sR, hI_nw, hI_ff, hI_fl, hI_cp]; try omega)) (by first | omega | (simp [hI_sI, hI_sF, hI_sR, hI_nw, hI_ff, hI_fl, hI_cp]; try omega)) ?_
        | refine z_dq (hS.tracks) ?_
        | refine z_dq (hS.track k0 k1) ?_
        | refine z_kq (kB) ?_
      refine z_cq (c' := 0) rfl ?_
      refine z_cq (c' := 0) rfl ?_
      unfold lyT at h
      refine k_split hB (hA.2.2.2.2.2.1 k k0 k1) hx vk.1 (fun hn => ?_) (fun hn hz u2 m1 m2 => ?_) (fun hn hz u2 m1 m2 => ?_)
      · rw [if_pos hn] at h
        exact h u hA (fC_rfl u)
      · rw [if_neg hn, if_pos hz] at h
        exact h u2 (cA_tr0 hA k0 k1 m1 m2) (fC_pT hB hx m1)
      · rw [if_neg hn, if_neg (by omega)] at h
        have hA2 := cA_tr hA k0 k1 m1 m2
        have hS2 := hA2.1
        obtain ⟨a0, a1, p0, p1, p2, p3, hW⟩ := m2
        have ka := (hB.tp hW.1.2.2.2.1.1).1
        repeat first
          | refine z_gq (by first | omega | (simp [hI_sI, hI_sF, hI_sR, hI_nw, hI_ff, hI_fl, hI_cp]; try omega)) ?_
          | refine z_iq rfl (by first | omega | (simp [hI_sI, hI_sF, hI_sR, hI_nw, hI_ff, hI_fl, hI_cp]; try omega)) (by first | omega | (simp [hI_sI, hI_sF, hI_sR, hI_nw, hI_ff, hI_fl, hI_cp]; try omega)) ?_
          | refine z_dq (hS2.tracks) ?_
          | refine z_dq (hS2.track k0 k1) ?_
          | refine z_kq (kB) ?_
          | refine z_dq (hW.1.1.1) ?_
          | refine z_kq (ka) ?_
        refine q_eq (h u2 hA2 (fC_pT hB hx m1)) ?_
        have e := hW.2.1.2.1
        simp at e
        exact e
    · rw [if_pos (by omega)] at h
      exact h u hA (fC_rfl u)
  · rw [if_pos (by omega)] at h
    exact h u hA (fC_rfl u)
