/-! spans and tapes: the class -/
theorem kd_sp {b : Nat} (h : 156 ≤ b) : kd b = (3, 7) := by
  unfold kd
  have h1 : Nat.blt b 50 = false := Bool.eq_false_iff.mpr (fun z => by rw [Nat.blt_eq] at z; omega)
  have h2 : Nat.blt b 130 = false := Bool.eq_false_iff.mpr (fun z => by rw [Nat.blt_eq] at z; omega)
  have h3 : Nat.blt b 156 = false := Bool.eq_false_iff.mpr (fun z => by rw [Nat.blt_eq] at z; omega)
  rw [h1, h2, h3]
  rfl
theorem kd_s1 {b : Nat} (h : 156 ≤ b) : (kd b).1 = 3 := by rw [kd_sp h]
theorem k_min {d : Nat} {a b : Int} {u : aS} {Q : aQ} (h : Q (some (vI (min a b))) u) : wpm (d + 1) M_J_min [vI a, vI b] u Q := by
  refine e_J_min rfl (run [] 40 ?_)
  refine z_bq (fun hz => ?_) (fun hz => ?_)
  · exact q_eq h (by omega)
  · exact q_eq h (by omega)
theorem k_end {d : Nat} {b : Nat} {p : Sp} {u : aS} {Q : aQ} (hb : cSp u b p) (hv : vP p) (h : Q (some (vI (qe p))) u) : wpm (d + 1) M_X3_end [vR b] u Q := by
  have kb := kd_s1 hb.1.1
  obtain ⟨_, e0, e1, e2, e3, e4, e5, e6⟩ := hb
  unfold vP at hv
  refine e_X3_end rfl (run [] 40 ?_)
  repeat first
    | refine z_gq (by first | omega | (simp [hI_sI, hI_sF, hI_sR, hI_nw, hI_ff, hI_fl, hI_cp]; try omega)) ?_
    | refine z_iq rfl (by first | omega | (simp [hI_sI, hI_sF, hI_sR, hI_nw, hI_ff, hI_fl, hI_cp]; try omega)) (by first | omega | (simp [hI_sI, hI_sF, hI_sR, hI_nw, hI_ff, hI_fl, hI_cp]; try omega)) ?_
    | refine z_kq (kb) ?_
  refine q_eq h ?_
  unfold qe
  omega
theorem k_sinit {d : Nat} {b : Nat} {a0 a1 a2 a3 a4 a5 a6 : Int} {u : aS} {Q : aQ} (hb : 156 ≤ b) (h : Q none (sI (sI (sI (sI (sI (sI (sI u b 0 a0) b 1 a1) b 2 a2) b 3 a3) b 4 a4) b 5 a5) b 6 a6)) : wpm (d + 1) M_X3_init [vR b, vI a0, vI a1, vI a2, vI a3, vI a4, vI a5, vI a6] u Q := by
  have kb := kd_s1 hb
  refine e_X3_init rfl (run [] 60 ?_)
  repeat first
    | refine z_gq (by first | omega | (simp [hI_sI, hI_sF, hI_sR, hI_nw, hI_ff, hI_fl, hI_cp]; try omega)) ?_
    | refine z_iq rfl (by first | omega | (simp [hI_sI, hI_sF, hI_sR, hI_nw, hI_ff, hI_fl, hI_cp]; try omega)) (by first | omega | (simp [hI_sI, hI_sF, hI_sR, hI_nw, hI_ff, hI_fl, hI_cp]; try omega)) ?_
    | refine z_kq (kb) ?_
  exact h
theorem cSp_new {u : aS} {b : Nat} {a0 a1 a2 a3 a4 a5 a6 : Int} {p : Sp} (h : 156 ≤ b ∧ b < nx u) (h0 : a0 = q0 p) (h1 : a1 = q1 p) (h2 : a2 = q2 p) (h3 : a3 = q3 p) (h4 : a4 = q4 p) (h5 : a5 = q5 p) (h6 : a6 = q6 p) : cSp (sI (sI (sI (sI (sI (sI (sI u b 0 a0) b 1 a1) b 2 a2) b 3 a3) b 4 a4) b 5 a5) b 6 a6) b p := by
  refine ⟨h, ?_, ?_, ?_, ?_, ?_, ?_, ?_⟩ <;> simp [hI_sI] <;> assumption
theorem fA_new (u : aS) {p : Nat → Prop} {a0 a1 a2 a3 a4 a5 a6 : Int} (hp : p (nx u)) : fA p u (sI (sI (sI (sI (sI (sI (sI (nw u 1) (nx u) 0 a0) (nx u) 1 a1) (nx u) 2 a2) (nx u) 3 a3) (nx u) 4 a4) (nx u) 5 a5) (nx u) 6 a6) :=
  fA_tr (fA_nw u 1) (fA_tr (fA_sI _ _ _ hp) (fA_tr (fA_sI _ _ _ hp) (fA_tr (fA_sI _ _ _ hp) (fA_tr (fA_sI _ _ _ hp) (fA_tr (fA_sI _ _ _ hp) (fA_tr (fA_sI _ _ _ hp) (fA_sI _ _ _ hp)))))))
theorem k_ahd {d : Nat} {b : Nat} {x : Int} {p : Sp} {u : aS} {Q : aQ} (hb : cSp u b p) (hv : vP p) (hx : 0 ≤ x ∧ x ≤ 128) (h : ∀ u', fA (fun a => a = nx u) u u' → nx u' = nx u + 1 → cSp u' (nx u) (ahd p x) → Q (some (vR (nx u))) u') : wpm (d + 2) M_X3_aheadOf [vR b, vI x] u Q := by
  have kb := kd_s1 hb.1.1
  have hn : 156 ≤ nx u := by
    have := hb.1
    omega
  have kn := kd_s1 hn
  obtain ⟨hb1, e0, e1, e2, e3, e4, e5, e6⟩ := hb
  unfold vP at hv
  refine e_X3_aheadOf rfl (run [] 60 ?_)
  repeat first
    | refine z_gq (by first | omega | (simp [hI_sI, hI_sF, hI_sR, hI_nw, hI_ff, hI_fl, hI_cp]; try omega)) ?_
    | refine z_iq rfl (by first | omega | (simp [hI_sI, hI_sF, hI_sR, hI_nw, hI_ff, hI_fl, hI_cp]; try omega)) (by first | omega | (simp [hI_sI, hI_sF, hI_sR, hI_nw, hI_ff, hI_fl, hI_cp]; try omega)) ?_
    | refine z_kq (kb) ?_
  refine ⟨kd_sp hn, ?_⟩
  refine z_cq (c' := 0) rfl ?_
  refine z_cq (c' := 0) rfl ?_
  repeat first
    | refine z_gq (by first | omega | (simp [hI_sI, hI_sF, hI_sR, hI_nw, hI_ff, hI_fl, hI_cp]; try omega)) ?_
    | refine z_iq rfl (by first | omega | (simp [hI_sI, hI_sF, hI_sR, hI_nw, hI_ff, hI_fl, hI_cp]; try omega)) (by first | omega | (simp [hI_sI, hI_sF, hI_sR, hI_nw, hI_ff, hI_fl, hI_cp]; try omega)) ?_
    | refine z_kq (kb) ?_
  refine k_min ?_
  repeat first
    | refine z_gq (by first | omega | (simp [hI_sI, hI_sF, hI_sR, hI_nw, hI_ff, hI_fl, hI_cp]; try omega)) ?_
    | refine z_iq rfl (by first | omega | (simp [hI_sI, hI_sF, hI_sR, hI_nw, hI_ff, hI_fl, hI_cp]; try omega)) (by first | omega | (simp [hI_sI, hI_sF, hI_sR, hI_nw, hI_ff, hI_fl, hI_cp]; try omega)) ?_
    | refine z_kq (kb) ?_
    | refine z_kq (kn) ?_
  refine k_sinit hn ?_
  refine h _ (fA_new u rfl) rfl (cSp_new ⟨hn, Nat.lt_succ_self _⟩ ?_ ?_ ?_ ?_ ?_ ?_ ?_)
  · exact e0
  · exact e1
  · show x - hI u b 3 = x - q3 p
    rw [e3]
  · exact e3
  · exact e4
  · show min (hI u b 5) (x - hI u b 3) = min (q5 p) (x - q3 p)
    rw [e5, e3]
  · rfl
theorem k_frm {d : Nat} {b : Nat} {x : Int} {p : Sp} {u : aS} {Q : aQ} (hb : cSp u b p) (hv : vP p) (hx : 0 ≤ x ∧ x ≤ 128) (h : ∀ u', fA (fun a => a = nx u) u u' → nx u' = nx u + 1 → cSp u' (nx u) (frm p x) → Q (some (vR (nx u))) u') : wpm (d + 2) M_X3_from [vR b, vI x] u Q := by
  have kb := kd_s1 hb.1.1
  have hn : 156 ≤ nx u := by
    have := hb.1
    omega
  have kn := kd_s1 hn
  obtain ⟨hb1, e0, e1, e2, e3, e4, e5, e6⟩ := hb
  unfold vP at hv
  refine e_X3_from rfl (run [] 60 ?_)
  repeat first
    | refine z_gq (by first | omega | (simp [hI_sI, hI_sF, hI_sR, hI_nw, hI_ff, hI_fl, hI_cp]; try omega)) ?_
    | refine z_iq rfl (by first | omega | (simp [hI_sI, hI_sF, hI_sR, hI_nw, hI_ff, hI_fl, hI_cp]; try omega)) (by first | omega | (simp [hI_sI, hI_sF, hI_sR, hI_nw, hI_ff, hI_fl, hI_cp]; try omega)) ?_
    | refine z_kq (kb) ?_
  refine ⟨kd_sp hn, ?_⟩
  refine z_cq (c' := 0) rfl ?_
  refine z_cq (c' := 0) rfl ?_
  repeat first
    | refine z_gq (by first | omega | (simp [hI_sI, hI_sF, hI_sR, hI_nw, hI_ff, hI_fl, hI_cp]; try omega)) ?_
    | refine z_iq rfl (by first | omega | (simp [hI_sI, hI_sF, hI_sR, hI_nw, hI_ff, hI_fl, hI_cp]; try omega)) (by first | omega | (simp [hI_sI, hI_sF, hI_sR, hI_nw, hI_ff, hI_fl, hI_cp]; try omega)) ?_
    | refine z_kq (kb) ?_
  refine k_min ?_
  repeat first
    | refine z_gq (by first | omega | (simp [hI_sI, hI_sF, hI_sR, hI_nw, hI_ff, hI_fl, hI_cp]; try omega)) ?_
    | refine z_iq rfl (by first | omega | (simp [hI_sI, hI_sF, hI_sR, hI_nw, hI_ff, hI_fl, hI_cp]; try omega)) (by first | omega | (simp [hI_sI, hI_sF, hI_sR, hI_nw, hI_ff, hI_fl, hI_cp]; try omega)) ?_
    | refine z_kq (kb) ?_
    | refine z_kq (kn) ?_
  refine k_sinit hn ?_
  refine h _ (fA_new u rfl) rfl (cSp_new ⟨hn, Nat.lt_succ_self _⟩ ?_ ?_ ?_ ?_ ?_ ?_ ?_)
  · exact e0
  · show hI u b 1 + (x - hI u b 3) = q1 p + (x - q3 p)
    rw [e1, e3]
  · show hI u b 2 - (x - hI u b 3) = q2 p - (x - q3 p)
    rw [e2, e3]
  · rfl
  · exact e4
  · rfl
  · show min (hI u b 6) (hI u b 2 - (x - hI u b 3)) = min (q6 p) (q2 p - (x - q3 p))
    rw [e6, e2, e3]
theorem k_faded {d : Nat} {b : Nat} {x y : Int} {p : Sp} {u : aS} {Q : aQ} (hb : cSp u b p) (h : ∀ u', fA (fun a => a = nx u) u u' → nx u' = nx u + 1 → cSp u' (nx u) (fdd p x y) → Q (some (vR (nx u))) u') : wpm (d + 2) M_X3_faded [vR b, vI x, vI y] u Q := by
  have kb := kd_s1 hb.1.1
  have hn : 156 ≤ nx u := by
    have := hb.1
    omega
  have kn := kd_s1 hn
  obtain ⟨hb1, e0, e1, e2, e3, e4, e5, e6⟩ := hb
  refine e_X3_faded rfl (run [] 60 ?_)
  refine ⟨kd_sp hn, ?_⟩
  refine z_cq (c' := 0) rfl ?_
  refine z_cq (c' := 0) rfl ?_
  repeat first
    | refine z_gq (by first | omega | (simp [hI_sI, hI_sF, hI_sR, hI_nw, hI_ff, hI_fl, hI_cp]; try omega)) ?_
    | refine z_iq rfl (by first | omega | (simp [hI_sI, hI_sF, hI_sR, hI_nw, hI_ff, hI_fl, hI_cp]; try omega)) (by first | omega | (simp [hI_sI, hI_sF, hI_sR, hI_nw, hI_ff, hI_fl, hI_cp]; try omega)) ?_
    | refine z_kq (kb) ?_
    | refine z_kq (kn) ?_
  refine k_sinit hn ?_
  exact h _ (fA_new u rfl) rfl (cSp_new ⟨hn, Nat.lt_succ_self _⟩ e0 e1 e2 e3 e4 rfl rfl)
theorem k_louder {d : Nat} {b : Nat} {g : Int} {p : Sp} {u : aS} {Q : aQ} (hb : cSp u b p) (h : ∀ u', fA (fun a => a = nx u) u u' → nx u' = nx u + 1 → cSp u' (nx u) (gnd p g) → Q (some (vR (nx u))) u') : wpm (d + 2) M_X3_louder [vR b, vI g] u Q := by
  have kb := kd_s1 hb.1.1
  have hn : 156 ≤ nx u := by
    have := hb.1
    omega
  have kn := kd_s1 hn
  obtain ⟨hb1, e0, e1, e2, e3, e4, e5, e6⟩ := hb
  refine e_X3_louder rfl (run [] 60 ?_)
  refine ⟨kd_sp hn, ?_⟩
  refine z_cq (c' := 0) rfl ?_
  refine z_cq (c' := 0) rfl ?_
  repeat first
    | refine z_gq (by first | omega | (simp [hI_sI, hI_sF, hI_sR, hI_nw, hI_ff, hI_fl, hI_cp]; try omega)) ?_
    | refine z_iq rfl (by first | omega | (simp [hI_sI, hI_sF, hI_sR, hI_nw, hI_ff, hI_fl, hI_cp]; try omega)) (by first | omega | (simp [hI_sI, hI_sF, hI_sR, hI_nw, hI_ff, hI_fl, hI_cp]; try omega)) ?_
    | refine z_kq (kb) ?_
    | refine z_kq (kn) ?_
  refine k_sinit hn ?_
  exact h _ (fA_new u rfl) rfl (cSp_new ⟨hn, Nat.lt_succ_self _⟩ e0 e1 e2 e3 rfl e5 e6)
theorem k_movedTo {d : Nat} {b : Nat} {t : Int} {p : Sp} {u : aS} {Q : aQ} (hb : cSp u b p) (h : ∀ u', fA (fun a => a = nx u) u u' → nx u' = nx u + 1 → cSp u' (nx u) (mvd p t) → Q (some (vR (nx u))) u') : wpm (d + 2) M_X3_movedTo [vR b, vI t] u Q := by
  have kb := kd_s1 hb.1.1
  have hn : 156 ≤ nx u := by
    have := hb.1
    omega
  have kn := kd_s1 hn
  obtain ⟨hb1, e0, e1, e2, e3, e4, e5, e6⟩ := hb
  refine e_X3_movedTo rfl (run [] 60 ?_)
  refine ⟨kd_sp hn, ?_⟩
  refine z_cq (c' := 0) rfl ?_
  refine z_cq (c' := 0) rfl ?_
  repeat first
    | refine z_gq (by first | omega | (simp [hI_sI, hI_sF, hI_sR, hI_nw, hI_ff, hI_fl, hI_cp]; try omega)) ?_
    | refine z_iq rfl (by first | omega | (simp [hI_sI, hI_sF, hI_sR, hI_nw, hI_ff, hI_fl, hI_cp]; try omega)) (by first | omega | (simp [hI_sI, hI_sF, hI_sR, hI_nw, hI_ff, hI_fl, hI_cp]; try omega)) ?_
    | refine z_kq (kb) ?_
    | refine z_kq (kn) ?_
  refine k_sinit hn ?_
  exact h _ (fA_new u rfl) rfl (cSp_new ⟨hn, Nat.lt_succ_self _⟩ e0 e1 e2 rfl e4 e5 e6)
/-! tapes -/
def isTp (t : Nat) : Prop := (kd t).1 = 4 ∧ kd (t + 1) = (26, 14) ∧ t + 1 < 156
theorem cTk_get {u : aS} {t : Nat} {K : Tk} (h : cTk u t K) {i : Int} {p : Sp} (h0 : 0 ≤ i) (hp : K.1[i.toNat]? = some p) : ∃ b, hR u (t + 1) i = some b ∧ cSp u b p := by
  have := h.2.2.2 i.toNat p hp
  have e : ((i.toNat : Nat) : Int) = i := by omega
  rw [e] at this
  exact this
theorem get_app {L : List Sp} {p q : Sp} {i : Nat} (h : (L ++ [p])[i]? = some q) : L[i]? = some q ∨ i = L.length ∧ q = p := by
  by_cases hi : i < L.length
  · rw [List.getElem?_append_left hi] at h
    exact Or.inl h
  · have hi2 : i < (L ++ [p]).length := by
      apply Classical.byContradiction
      intro hn
      rw [List.getElem?_eq_none (by omega)] at h
      cases h
    simp at hi2
    have e : i = L.length := by omega
    subst e
    rw [List.getElem?_append_right (by omega)] at h
    simp at h
    exact Or.inr ⟨rfl, h.symm⟩
theorem k_append {d : Nat} {t b : Nat} {L : List Sp} {sh : Int} {p : Sp} {u : aS} {Q : aQ} (ht : isTp t) (hK : cTk u t (L, sh)) (hl : L.length ≤ 13) (hb : cSp u b p) (h : ∀ u', fA (fun a => a = t ∨ a = t + 1) u u' → nx u' = nx u → cTk u' t (L ++ [p], sh) → Q none u') : wpm (d + 1) M_X4_append [vR t, vR b] u Q := by
  obtain ⟨k0, k1, k2⟩ := ht
  have kb := kd_s1 hb.1.1
  obtain ⟨⟨z1, z2⟩, z3, z4, z5⟩ := hK
  have z3' : hI u t 1 = L.length := z3
  refine e_X4_append rfl (run [] 60 ?_)
  repeat first
    | refine z_gq (by first | omega | (simp [hI_sI, hI_sF, hI_sR, hI_nw, hI_ff, hI_fl, hI_cp]; try omega)) ?_
    | refine z_iq rfl (by first | omega | (simp [hI_sI, hI_sF, hI_sR, hI_nw, hI_ff, hI_fl, hI_cp]; try omega)) (by first | omega | (simp [hI_sI, hI_sF, hI_sR, hI_nw, hI_ff, hI_fl, hI_cp]; try omega)) ?_
    | refine z_kq (k0) ?_
  refine z_bq (fun hz => ?_) (fun hz => by omega)
  repeat first
    | refine z_gq (by first | omega | (simp [hI_sI, hI_sF, hI_sR, hI_nw, hI_ff, hI_fl, hI_cp]; try omega)) ?_
    | refine z_iq rfl (by first | omega | (simp [hI_sI, hI_sF, hI_sR, hI_nw, hI_ff, hI_fl, hI_cp]; try omega)) (by first | omega | (simp [hI_sI, hI_sF, hI_sR, hI_nw, hI_ff, hI_fl, hI_cp]; try omega)) ?_
    | refine z_kq (k0) ?_
    | refine z_iq (k1) (by first | omega | (simp [hI_sI, hI_sF, hI_sR, hI_nw, hI_ff, hI_fl, hI_cp]; try omega)) (by first | omega | (simp [hI_sI, hI_sF, hI_sR, hI_nw, hI_ff, hI_fl, hI_cp]; try omega)) ?_
    | refine z_dq (z1) ?_
    | refine z_kq (kb) ?_
  have ee : hI (sR u (t + 1) (hI u t 1) (some b)) t 1 = L.length := z3'
  repeat first
    | refine z_gq (by first | omega | (simp [hI_sI, hI_sF, hI_sR, hI_nw, hI_ff, hI_fl, hI_cp]; try omega)) ?_
    | refine z_iq rfl (by first | omega | (simp [hI_sI, hI_sF, hI_sR, hI_nw, hI_ff, hI_fl, hI_cp]; try omega)) (by first | omega | (simp [hI_sI, hI_sF, hI_sR, hI_nw, hI_ff, hI_fl, hI_cp]; try omega)) ?_
    | refine z_kq (k0) ?_
  refine h _ ?_ rfl ⟨⟨by rw [hR_sI, hR_sR, if_neg (by omega)]; exact z1, fun i c i0 i1 e => ?_⟩, ?_, by rw [hI_sI, if_neg (by omega)]; exact z4, fun i q hq => ?_⟩
  · exact fA_tr (fA_sR _ _ _ (by omega)) (fA_sI _ _ _ (by omega))
  · have e' : (if t + 1 = t + 1 ∧ i = hI u t 1 then some b else hR u (t + 1) i) = some c := e
    by_cases hc : i = hI u t 1
    · rw [if_pos ⟨rfl, hc⟩] at e'
      have : b = c := by simpa using e'
      subst this
      exact hb.1
    · rw [if_neg (fun z => hc z.2)] at e'
      exact z2 i c i0 i1 e'
  · rw [hI_sI, if_pos ⟨rfl, rfl⟩, ee]
    simp
  · have hq' : (L ++ [p])[i]? = some q := hq
    have hr : ∀ j : Int, hR (sI (sR u (t + 1) (hI u t 1) (some b)) t 1 (hI (sR u (t + 1) (hI u t 1) (some b)) t 1 + 1)) (t + 1) j = if t + 1 = t + 1 ∧ j = hI u t 1 then some b else hR u (t + 1) j := fun _ => rfl
    have hs : ∀ c r, cSp u c r → cSp (sI (sR u (t + 1) (hI u t 1) (some b)) t 1 (hI (sR u (t + 1) (hI u t 1) (some b)) t 1 + 1)) c r := by
      intro c r hc
      refine cSp_f (p := fun a => a = t ∨ a = t + 1) (fA_tr (fA_sR _ _ _ (by omega)) (fA_sI _ _ _ (by omega))) ?_ hc
      have := hc.1
      omega
    rcases get_app hq' with g | ⟨g1, g2⟩
    · have hi := get_lt g
      obtain ⟨c, c1, c2⟩ := z5 i q g
      refine ⟨c, ?_, hs c q c2⟩
      rw [hr, if_neg (by omega)]
      exact c1
    · subst g2
      refine ⟨b, ?_, hs b q hb⟩
      rw [hr, if_pos ⟨rfl, by omega⟩]
