/-! heard, played, span, covers -/
def s16 (v : UInt32) : Int := (FP.f2i (FP.fmul v 1098907648)).toInt
theorem s16_vf {E : Nat} {v : UInt32} (h : fb E v) (hE : E ≤ 240) : vf_n32 (FP.fmul v 1098907648) := fb_vf (fb_mul h (show fb 132 1098907648 from (by decide : (1098907648 : UInt32).toNat % 2 ^ 31 < 132 * 2 ^ 23)) (by omega) (by omega) (by have := fb_pos h; omega)) (by omega)
theorem k_s16 {d : Nat} {v : UInt32} {E : Nat} {u : aS} {Q : aQ} (hb : fb E v) (hE : E ≤ 240) (h : Q (some (vI (s16 v))) u) : wpm (d + 1) M_X7_sixteenfold [vF v] u Q := by
  refine e_X7_sixteenfold rfl (run [] 60 ?_)
  refine ⟨s16_vf hb hE, ?_⟩
  exact h
def oHeard (K : So) (T : Tr) (t : Int) : Int := if ¬ (0 ≤ t ∧ t ≤ 127) then -2000000002 else s16 (hdF K T t)
def oPlayed (K : So) (T : Tr) (k t : Int) : Int := if ¬ (0 ≤ k ∧ k ≤ 3) then -2000000001 else if ¬ (0 ≤ t ∧ t ≤ 127) then -2000000002 else s16 (plF K (T k).1.1 t)
theorem k_heard {d : Nat} {t : Int} {u : aS} {Q : aQ} {A : Al} (hA : cA u A) (hZ : vSz A.1) (hF : vSf A.1) (hV : vTN A.2.2.2.1) (hQ : vQN A.1 A.2.2.2.1) (h : Q (some (vI (oHeard A.1 A.2.2.2.1 t))) u) : wpm (d + 6) M_X7_heard [vR 8, vI t] u Q := by
  unfold oHeard at h
  have z := hZ.1
  refine e_X7_heard rfl (run [] 60 ?_)
  refine k_isMoment (fun t0 t1 => ?_) (fun t0 => ?_)
  · rw [if_neg (by omega)] at h
    refine k_heardAt hA hZ hF hV hQ ⟨t0, t1⟩ ?_
    refine k_s16 (hdF_b t hZ hF hV hQ).1 (by omega) ?_
    exact h
  · rw [if_pos t0] at h
    exact h
theorem c_heard {d : Nat} {t : Int} {u : aS} {Q : aQ} {A : Al} (hA : mA u A) (hZ : vSz A.1) (hF : vSf A.1) (hV : vTN A.2.2.2.1) (hQ : vQN A.1 A.2.2.2.1) (h : Q (some (vI (oHeard A.1 A.2.2.2.1 t))) u) : wpm (d + 5) M_X8_heard [vR 139, vI t] u Q := by
  unfold oHeard at h
  have z := hZ.1
  refine e_X8_heard rfl (run [] 60 ?_)
  refine c_in (fun t0 t1 => ?_) (fun t0 => ?_)
  · rw [if_neg (by omega)] at h
    refine c_heardAt hA hZ hF hV hQ ⟨t0, t1⟩ ?_
    refine ⟨s16_vf (hdF_b t hZ hF hV hQ).1 (by omega), ?_⟩
    exact h
  · rw [if_pos t0] at h
    exact h
theorem k_played {d : Nat} {k t : Int} {u : aS} {Q : aQ} {A : Al} (hA : cA u A) (hZ : vSz A.1) (hF : vSf A.1) (hV : vTN A.2.2.2.1) (hQ : vQN A.1 A.2.2.2.1) (h : Q (some (vI (oPlayed A.1 A.2.2.2.1 k t))) u) : wpm (d + 5) M_X7_played [vR 8, vI k, vI t] u Q := by
  unfold oPlayed at h
  have z := hZ.1
  have hS := hA.1
  refine e_X7_played rfl (run [] 60 ?_)
  refine k_isTrack (fun k0 k1 => ?_) (fun k0 => ?_)
  · rw [if_neg (by omega)] at h
    refine k_isMoment (fun t0 t1 => ?_) (fun t0 => ?_)
    · rw [if_neg (by omega)] at h
      obtain ⟨a0, r0, tp, c0⟩ := k_nowcount hA k0 k1
      have kB := (isB_k k0 k1).k0
      repeat first
        | refine z_gq (by first | omega | (simp [hI_sI, hI_sF, hI_sR, hI_nw, hI_ff, hI_fl, hI_cp]; try omega)) ?_
        | refine z_iq rfl (by first | omega | (simp [hI_sI, hI_sF, hI_sR, hI_nw, hI_ff, hI_fl, hI_cp]; try omega)) (by first | omega | (simp [hI_sI, hI_sF, hI_sR, hI_nw, hI_ff, hI_fl, hI_cp]; try omega)) ?_
        | refine z_dq (hS.tracks) ?_
        | refine z_dq (hS.track k0 k1) ?_
        | refine z_kq (kB) ?_
        | refine z_dq (r0) ?_
      refine k_playedOn hA hZ hF tp c0 (hV k k0 k1).1.1 (hQ k k0 k1) (by omega) ?_
      refine k_s16 (plF_b t hZ hF (hV k k0 k1).1.1 (hQ k k0 k1)) (by omega) ?_
      exact h
    · rw [if_pos t0] at h
      exact h
  · rw [if_pos k0] at h
    exact h
theorem c_played {d : Nat} {k t : Int} {u : aS} {Q : aQ} {A : Al} (hA : mA u A) (hZ : vSz A.1) (hF : vSf A.1) (hV : vTN A.2.2.2.1) (hQ : vQN A.1 A.2.2.2.1) (h : Q (some (vI (oPlayed A.1 A.2.2.2.1 k t))) u) : wpm (d + 4) M_X8_played [vR 139, vI k, vI t] u Q := by
  unfold oPlayed at h
  have z := hZ.1
  refine e_X8_played rfl (run [] 60 ?_)
  refine c_isTrack (fun k0 k1 => ?_) (fun k0 => ?_)
  · rw [if_neg (by omega)] at h
    refine c_in (fun t0 t1 => ?_) (fun t0 => ?_)
    · rw [if_neg (by omega)] at h
      refine c_playedAt hA ⟨k0, k1⟩ hZ hF (hV k k0 k1).1.1 (hQ k k0 k1) (by omega) ?_
      refine ⟨s16_vf (plF_b t hZ hF (hV k k0 k1).1.1 (hQ k k0 k1)) (by omega), ?_⟩
      exact h
    · rw [if_pos t0] at h
      exact h
  · rw [if_pos k0] at h
    exact h
/-! span -/
def qn (p : Sp) (w : Int) : Int := if w = 0 then q0 p else if w = 1 then q1 p else if w = 2 then q2 p else if w = 3 then q3 p else if w = 4 then q4 p else if w = 5 then q5 p else if w = 6 then q6 p else -2000000002
def oSpan (T : Tr) (k i w : Int) : Int := if ¬ ((0 ≤ k ∧ k ≤ 3) ∧ 0 ≤ i ∧ i < (T k).1.1.length) then -2000000001 else qn (spA (T k).1.1 i) w
theorem k_span {d : Nat} {k i w : Int} {u : aS} {Q : aQ} {A : Al} (hA : cA u A) (hV : vTr A.2.2.2.1) (h : Q (some (vI (oSpan A.2.2.2.1 k i w))) u) : wpm (d + 4) M_X7_span [vR 8, vI k, vI i, vI w] u Q := by
  have hS := hA.1
  unfold oSpan at h
  refine e_X7_span rfl (run [] 60 ?_)
  refine k_isSpan hA hV (fun k0 k1 i0 i1 => ?_) (fun hn => ?_)
  · rw [if_neg (by omega)] at h
    obtain ⟨a0, r0, tp0, c0⟩ := k_nowcount hA k0 k1
    have kB := (isB_k k0 k1).k0
    have ka := tp0.1
    have ka1 := tp0.2.1
    have l12 := hV.len k0 k1
    have z1 := c0.1.1
    obtain ⟨y, y1, y2⟩ := cTk_get c0 i0 (spA_get i0 i1)
    have ky := kd_s1 y2.1.1
    obtain ⟨_, e0, e1, e2, e3, e4, e5, e6⟩ := y2
    repeat first
      | refine z_gq (by first | omega | (simp [hI_sI, hI_sF, hI_sR, hI_nw, hI_ff, hI_fl, hI_cp]; try omega)) ?_
      | refine z_iq rfl (by first | omega | (simp [hI_sI, hI_sF, hI_sR, hI_nw, hI_ff, hI_fl, hI_cp]; try omega)) (by first | omega | (simp [hI_sI, hI_sF, hI_sR, hI_nw, hI_ff, hI_fl, hI_cp]; try omega)) ?_
      | refine z_dq (hS.tracks) ?_
      | refine z_dq (hS.track k0 k1) ?_
      | refine z_kq (kB) ?_
      | refine z_dq (r0) ?_
      | refine z_kq (ka) ?_
      | refine z_dq (z1) ?_
      | refine z_iq (ka1) (by first | omega | (simp [hI_sI, hI_sF, hI_sR, hI_nw, hI_ff, hI_fl, hI_cp]; try omega)) (by first | omega | (simp [hI_sI, hI_sF, hI_sR, hI_nw, hI_ff, hI_fl, hI_cp]; try omega)) ?_
      | refine z_dq (y1) ?_
    unfold qn at h
    refine z_bq (fun h0 => ?_) (fun h0 => ?_)
    · rw [if_pos h0] at h
      repeat first
        | refine z_gq (by first | omega | (simp [hI_sI, hI_sF, hI_sR, hI_nw, hI_ff, hI_fl, hI_cp]; try omega)) ?_
        | refine z_iq rfl (by first | omega | (simp [hI_sI, hI_sF, hI_sR, hI_nw, hI_ff, hI_fl, hI_cp]; try omega)) (by first | omega | (simp [hI_sI, hI_sF, hI_sR, hI_nw, hI_ff, hI_fl, hI_cp]; try omega)) ?_
        | refine z_kq (ky) ?_
      exact q_eq h e0
    · rw [if_neg h0] at h
      refine z_bq (fun h1 => ?_) (fun h1 => ?_)
      · rw [if_pos h1] at h
        repeat first
          | refine z_gq (by first | omega | (simp [hI_sI, hI_sF, hI_sR, hI_nw, hI_ff, hI_fl, hI_cp]; try omega)) ?_
          | refine z_iq rfl (by first | omega | (simp [hI_sI, hI_sF, hI_sR, hI_nw, hI_ff, hI_fl, hI_cp]; try omega)) (by first | omega | (simp [hI_sI, hI_sF, hI_sR, hI_nw, hI_ff, hI_fl, hI_cp]; try omega)) ?_
          | refine z_kq (ky) ?_
        exact q_eq h e1
      · rw [if_neg h1] at h
        refine z_bq (fun h2 => ?_) (fun h2 => ?_)
        · rw [if_pos h2] at h
          repeat first
            | refine z_gq (by first | omega | (simp [hI_sI, hI_sF, hI_sR, hI_nw, hI_ff, hI_fl, hI_cp]; try omega)) ?_
            | refine z_iq rfl (by first | omega | (simp [hI_sI, hI_sF, hI_sR, hI_nw, hI_ff, hI_fl, hI_cp]; try omega)) (by first | omega | (simp [hI_sI, hI_sF, hI_sR, hI_nw, hI_ff, hI_fl, hI_cp]; try omega)) ?_
            | refine z_kq (ky) ?_
          exact q_eq h e2
        · rw [if_neg h2] at h
          refine z_bq (fun h3 => ?_) (fun h3 => ?_)
          · rw [if_pos h3] at h
            repeat first
              | refine z_gq (by first | omega | (simp [hI_sI, hI_sF, hI_sR, hI_nw, hI_ff, hI_fl, hI_cp]; try omega)) ?_
              | refine z_iq rfl (by first | omega | (simp [hI_sI, hI_sF, hI_sR, hI_nw, hI_ff, hI_fl, hI_cp]; try omega)) (by first | omega | (simp [hI_sI, hI_sF, hI_sR, hI_nw, hI_ff, hI_fl, hI_cp]; try omega)) ?_
              | refine z_kq (ky) ?_
            exact q_eq h e3
          · rw [if_neg h3] at h
            refine z_bq (fun h4 => ?_) (fun h4 => ?_)
            · rw [if_pos h4] at h
              repeat first
                | refine z_gq (by first | omega | (simp [hI_sI, hI_sF, hI_sR, hI_nw, hI_ff, hI_fl, hI_cp]; try omega)) ?_
                | refine z_iq rfl (by first | omega | (simp [hI_sI, hI_sF, hI_sR, hI_nw, hI_ff, hI_fl, hI_cp]; try omega)) (by first | omega | (simp [hI_sI, hI_sF, hI_sR, hI_nw, hI_ff, hI_fl, hI_cp]; try omega)) ?_
                | refine z_kq (ky) ?_
              exact q_eq h e4
            · rw [if_neg h4] at h
              refine z_bq (fun h5 => ?_) (fun h5 => ?_)
              · rw [if_pos h5] at h
                repeat first
                  | refine z_gq (by first | omega | (simp [hI_sI, hI_sF, hI_sR, hI_nw, hI_ff, hI_fl, hI_cp]; try omega)) ?_
                  | refine z_iq rfl (by first | omega | (simp [hI_sI, hI_sF, hI_sR, hI_nw, hI_ff, hI_fl, hI_cp]; try omega)) (by first | omega | (simp [hI_sI, hI_sF, hI_sR, hI_nw, hI_ff, hI_fl, hI_cp]; try omega)) ?_
                  | refine z_kq (ky) ?_
                exact q_eq h e5
              · rw [if_neg h5] at h
                refine z_bq (fun h6 => ?_) (fun h6 => ?_)
                · rw [if_pos h6] at h
                  repeat first
                    | refine z_gq (by first | omega | (simp [hI_sI, hI_sF, hI_sR, hI_nw, hI_ff, hI_fl, hI_cp]; try omega)) ?_
                    | refine z_iq rfl (by first | omega | (simp [hI_sI, hI_sF, hI_sR, hI_nw, hI_ff, hI_fl, hI_cp]; try omega)) (by first | omega | (simp [hI_sI, hI_sF, hI_sR, hI_nw, hI_ff, hI_fl, hI_cp]; try omega)) ?_
                    | refine z_kq (ky) ?_
                  exact q_eq h e6
                · rw [if_neg h6] at h
                  exact h
  · rw [if_pos hn] at h
    exact h
theorem c_span {d : Nat} {k i w : Int} {u : aS} {Q : aQ} {A : Al} (hA : mA u A) (hV : vTr A.2.2.2.1) (h : Q (some (vI (oSpan A.2.2.2.1 k i w))) u) : wpm (d + 4) M_X8_span [vR 139, vI k, vI i, vI w] u Q := by
  have hS := hA.1
  unfold oSpan at h
  refine e_X8_span rfl (run [] 60 ?_)
  have hm : 0 ≤ k → k ≤ 3 → hI u 142 (86 * k + 84) = (A.2.2.2.1 k).1.1.length ∧ (A.2.2.2.1 k).1.1.length ≤ 12 := fun k0 k1 => ⟨(hA.2.2.2.2.1 k k0 k1).1.1, hV.len k0 k1⟩
  refine c_isSpan hS (fun k0 k1 => by have := hm k0 k1; omega) (fun k0 k1 i0 i1 => ?_) (fun hn => ?_)
  · obtain ⟨e1, e2⟩ := hm k0 k1
    rw [if_neg (by omega)] at h
    obtain ⟨c1, c2, c3, c4⟩ := hA.2.2.2.2.1 k k0 k1
    obtain ⟨s0, s1, s2, s3, s4, s5, s6⟩ := mTk_sp c1 i0 (by omega)
    refine c_in (fun w0 w1 => ?_) (fun w0 => ?_)
    · refine c_of hS ⟨k0, k1⟩ (by omega) ⟨w0, w1⟩ ?_
      refine q_eq h ?_
      have hw : w = 0 ∨ w = 1 ∨ w = 2 ∨ w = 3 ∨ w = 4 ∨ w = 5 ∨ w = 6 := by omega
      rcases hw with e | e | e | e | e | e | e <;> subst e
      · rw [Int.add_zero]
        exact s0
      · exact s1
      · exact s2
      · exact s3
      · exact s4
      · exact s5
      · exact s6
    · refine q_eq h ?_
      unfold qn
      rw [if_neg (by omega), if_neg (by omega), if_neg (by omega), if_neg (by omega), if_neg (by omega), if_neg (by omega), if_neg (by omega)]
  · rw [if_pos (by intro z; exact hn ⟨z.1, z.2.1, by have := hm z.1.1 z.1.2; omega⟩)] at h
    exact h
/-! covers -/
def mw (a b : Int) : List Sp → Int
  | [] => 0
  | p :: r => max (min b (qe p) - max a (q3 p)) 0 + mw a b r
theorem cn_or {p q : Int → Bool} : ∀ (n : Nat) (i : Int), (∀ j, i ≤ j → j < i + n → p j = true → q j = false) → cn (fun x => p x || q x) n i = cn p n i + cn q n i
  | 0, _, _ => rfl
  | n + 1, i, h => by
    rw [cn_s, cn_s, cn_s, cn_or n (i + 1) (fun j a b => h j (by omega) (by omega))]
    have h0 := h i (by omega) (by omega)
    cases hp : p i
    · cases hq : q i <;> simp <;> omega
    · rw [h0 hp]
      simp
      omega
theorem cn_iv {s e : Int} : ∀ (n : Nat) (a : Int), cn (fun x => decide (s ≤ x ∧ x < e)) n a = max (min (a + n) e - max a s) 0
  | 0, a => by
    rw [cn_0]
    omega
  | n + 1, a => by
    rw [cn_s, cn_iv n (a + 1)]
    by_cases h : s ≤ a ∧ a < e
    · rw [if_pos (by simp [h])]
      omega
    · rw [if_neg (by simp; omega)]
      omega
theorem cn_own : ∀ (l : List Sp) (i lo : Int) (n : Nat) (a : Int), 0 ≤ i → SL lo l → cn (fun x => decide (¬ oR (en i l) x = -1)) n a = mw a (a + n) l
  | [], i, lo, n, a, hi, h => by
    unfold mw
    exact cn_n n a (fun j _ _ => by simp [en, oR])
  | p :: r, i, lo, n, a, hi, h => by
    unfold mw
    rw [← cn_own r (i + 1) (qe p) n a (by omega) h.2, ← cn_iv, ← cn_or]
    · refine cn_e n a (fun j _ _ => ?_)
      show decide (¬ (if q3 p ≤ j ∧ j < qe p then i else oR (en (i + 1) r) j) = -1) = _
      by_cases hx : q3 p ≤ j ∧ j < qe p
      · rw [if_pos hx]
        simp [hx]
        omega
      · rw [if_neg hx]
        simp [hx]
    · intro j _ _ hj
      simp at hj
      have := oR_out (RS_en (i := i + 1) h.2) hj.2
      simp [this]
theorem mw_b {a b : Int} : ∀ (l : List Sp), (∀ p, p ∈ l → vP p) → 0 ≤ mw a b l ∧ mw a b l ≤ 64 * l.length
  | [], _ => ⟨Int.le_refl _, Int.le_refl _⟩
  | p :: r, h => by
    have ih := mw_b (a := a) (b := b) r (fun q hq => h q (List.mem_cons_of_mem _ hq))
    have vp := h p (List.mem_cons_self ..)
    unfold vP at vp
    unfold mw
    unfold qe
    simp
    omega
def oCovers (T : Tr) (k m t : Int) : Int := if ¬ (0 ≤ k ∧ k ≤ 3) then -2000000001 else if ¬ ((1 ≤ m ∧ m ≤ 64) ∧ 0 ≤ t ∧ t ≤ 128 - m) then -2000000002 else mw t (t + m) (T k).1.1
theorem k_max {d : Nat} {a b : Int} {u : aS} {Q : aQ} (h : Q (some (vI (max a b))) u) : wpm (d + 1) M_J_max [vI a, vI b] u Q := by
  refine e_J_max rfl (run [] 40 ?_)
  refine z_bq (fun hz => ?_) (fun hz => ?_)
  · exact q_eq h (by omega)
  · exact q_eq h (by omega)
theorem w_moments {d : Nat} {Q : aQ} {o : Nat} {a b N : Int} {u : aS} (ho : isTp o) (hr : hR u o 0 = some (o + 1)) (hn : hI u o 1 = N) (hN : N ≤ 14) (ha : 0 ≤ a ∧ a ≤ 128) (hb : 0 ≤ b ∧ b ≤ 128) {c s : Nat} : ∀ (r : List Sp) (i m : Int) (w : aV), cRw u o i r → i + r.length = N → 0 ≤ i → 0 ≤ m → m ≤ 64 * i → (∀ p, p ∈ r → vP p) → Q (some (vI (m + mw a b r))) u → wp (wpm (d + 1)) cd_X4_momentsWithin Q 5 [vR o, vI a, vI b, vI m, vI i, w] [] u c s
  | [], i, m, w, hw, h1, h2, h3, h4, hv, h => by
    simp at h1
    refine run [(5, [])] 60 ?_
    repeat first
      | refine z_gq (by first | omega | (simp [hI_sI, hI_sF, hI_sR, hI_nw, hI_ff, hI_fl, hI_cp]; try omega)) ?_
      | refine z_iq rfl (by first | omega | (simp [hI_sI, hI_sF, hI_sR, hI_nw, hI_ff, hI_fl, hI_cp]; try omega)) (by first | omega | (simp [hI_sI, hI_sF, hI_sR, hI_nw, hI_ff, hI_fl, hI_cp]; try omega)) ?_
      | refine z_kq (ho.1) ?_
    refine z_bq (fun hz => by omega) (fun hz => ?_)
    exact q_eq h (by show m = m + 0; omega)
  | p :: r, i, m, w, hw, h1, h2, h3, h4, hv, h => by
    obtain ⟨⟨y, y1, y2⟩, hw2⟩ := cRw_c hw
    have ky := kd_s1 y2.1.1
    have vp := hv p (List.mem_cons_self ..)
    have vp' := vp
    unfold vP at vp'
    have e3 : hI u y 3 = q3 p := y2.2.2.2.2.1
    have eq : qe p = q3 p + q2 p := rfl
    simp at h1
    obtain ⟨o0, o1, o2⟩ := ho
    refine run [(5, [])] 60 ?_
    repeat first
      | refine z_gq (by first | omega | (simp [hI_sI, hI_sF, hI_sR, hI_nw, hI_ff, hI_fl, hI_cp]; try omega)) ?_
      | refine z_iq rfl (by first | omega | (simp [hI_sI, hI_sF, hI_sR, hI_nw, hI_ff, hI_fl, hI_cp]; try omega)) (by first | omega | (simp [hI_sI, hI_sF, hI_sR, hI_nw, hI_ff, hI_fl, hI_cp]; try omega)) ?_
      | refine z_kq (o0) ?_
    refine z_bq (fun hz => ?_) (fun hz => by omega)
    repeat first
      | refine z_gq (by first | omega | (simp [hI_sI, hI_sF, hI_sR, hI_nw, hI_ff, hI_fl, hI_cp]; try omega)) ?_
      | refine z_iq rfl (by first | omega | (simp [hI_sI, hI_sF, hI_sR, hI_nw, hI_ff, hI_fl, hI_cp]; try omega)) (by first | omega | (simp [hI_sI, hI_sF, hI_sR, hI_nw, hI_ff, hI_fl, hI_cp]; try omega)) ?_
      | refine z_kq (o0) ?_
      | refine z_iq (o1) (by first | omega | (simp [hI_sI, hI_sF, hI_sR, hI_nw, hI_ff, hI_fl, hI_cp]; try omega)) (by first | omega | (simp [hI_sI, hI_sF, hI_sR, hI_nw, hI_ff, hI_fl, hI_cp]; try omega)) ?_
      | refine z_dq (hr) ?_
      | refine z_dq (y1) ?_
      | refine z_kq (ky) ?_
    refine k_end y2 vp ?_
    refine k_min ?_
    repeat first
      | refine z_gq (by first | omega | (simp [hI_sI, hI_sF, hI_sR, hI_nw, hI_ff, hI_fl, hI_cp]; try omega)) ?_
      | refine z_iq rfl (by first | omega | (simp [hI_sI, hI_sF, hI_sR, hI_nw, hI_ff, hI_fl, hI_cp]; try omega)) (by first | omega | (simp [hI_sI, hI_sF, hI_sR, hI_nw, hI_ff, hI_fl, hI_cp]; try omega)) ?_
      | refine z_kq (o0) ?_
      | refine z_iq (o1) (by first | omega | (simp [hI_sI, hI_sF, hI_sR, hI_nw, hI_ff, hI_fl, hI_cp]; try omega)) (by first | omega | (simp [hI_sI, hI_sF, hI_sR, hI_nw, hI_ff, hI_fl, hI_cp]; try omega)) ?_
      | refine z_dq (hr) ?_
      | refine z_dq (y1) ?_
      | refine z_kq (ky) ?_
    refine k_max ?_
    rw [e3]
    repeat first
      | refine z_gq (by first | omega | (simp [hI_sI, hI_sF, hI_sR, hI_nw, hI_ff, hI_fl, hI_cp]; try omega)) ?_
      | refine z_iq rfl (by first | omega | (simp [hI_sI, hI_sF, hI_sR, hI_nw, hI_ff, hI_fl, hI_cp]; try omega)) (by first | omega | (simp [hI_sI, hI_sF, hI_sR, hI_nw, hI_ff, hI_fl, hI_cp]; try omega)) ?_
    refine k_max ?_
    repeat first
      | refine z_gq (by first | omega | (simp [hI_sI, hI_sF, hI_sR, hI_nw, hI_ff, hI_fl, hI_cp]; try omega)) ?_
      | refine z_iq rfl (by first | omega | (simp [hI_sI, hI_sF, hI_sR, hI_nw, hI_ff, hI_fl, hI_cp]; try omega)) (by first | omega | (simp [hI_sI, hI_sF, hI_sR, hI_nw, hI_ff, hI_fl, hI_cp]; try omega)) ?_
    refine w_moments ⟨o0, o1, o2⟩ hr hn hN ha hb r (i + 1) _ _ hw2 (by omega) (by omega) (by omega) (by omega) (fun q hq => hv q (List.mem_cons_of_mem _ hq)) (q_eq h ?_)
    show m + max (min b (qe p) - max a (q3 p)) 0 + mw a b r = m + (max (min b (qe p) - max a (q3 p)) 0 + mw a b r)
    omega
theorem k_covers {d : Nat} {k m t : Int} {u : aS} {Q : aQ} {A : Al} (hA : cA u A) (hV : vTr A.2.2.2.1) (h : Q (some (vI (oCovers A.2.2.2.1 k m t))) u) : wpm (d + 3) M_X7_covers [vR 8, vI k, vI m, vI t] u Q := by
  have hS := hA.1
  unfold oCovers at h
  refine e_X7_covers rfl (run [] 60 ?_)
  refine k_isTrack (fun k0 k1 => ?_) (fun k0 => ?_)
  · rw [if_neg (by omega)] at h
    refine k_isPlaceFor (fun m0 t0 => ?_) (fun m0 => ?_)
    · rw [if_neg (by omega)] at h
      obtain ⟨a0, r0, tp0, c0⟩ := k_nowcount hA k0 k1
      have kB := (isB_k k0 k1).k0
      have ka := tp0.1
      have l12 := hV.len k0 k1
      repeat first
        | refine z_gq (by first | omega | (simp [hI_sI, hI_sF, hI_sR, hI_nw, hI_ff, hI_fl, hI_cp]; try omega)) ?_
        | refine z_iq rfl (by first | omega | (simp [hI_sI, hI_sF, hI_sR, hI_nw, hI_ff, hI_fl, hI_cp]; try omega)) (by first | omega | (simp [hI_sI, hI_sF, hI_sR, hI_nw, hI_ff, hI_fl, hI_cp]; try omega)) ?_
        | refine z_dq (hS.tracks) ?_
        | refine z_dq (hS.track k0 k1) ?_
        | refine z_kq (kB) ?_
        | refine z_dq (r0) ?_
        | refine z_kq (ka) ?_
      refine e_X4_momentsWithin (args := [vR a0, vI t, vI (t + m)]) rfl (run [(5, [])] 60 ?_)
      refine w_moments tp0 c0.1.1 c0.2.1 (by omega) (by omega) (by omega) _ 0 0 _ (cRw_0 c0) (by omega) (by omega) (by omega) (by omega) (hV.now k0 k1).1.2.2 (q_eq h ?_)
      omega
    · rw [if_pos m0] at h
      exact h
  · rw [if_pos k0] at h
    exact h
theorem w_mcovers {d : Nat} {Q : aQ} {k m t : Int} {K : Tk} {u : aS} (hS : mS u) (hk : 0 ≤ k ∧ k ≤ 3) (hK : mTk u 142 (86 * k) K) (hG : vG K.1) (hm : 1 ≤ m ∧ m ≤ 64) (ht : 0 ≤ t ∧ t ≤ 128 - m) {c s : Nat} : ∀ (n : Nat) (x r : Int), x + n = t + m → t ≤ x → 0 ≤ r → r ≤ x → Q (some (vI (r + cn (fun x => decide (¬ oR (en 0 K.1) x = -1)) n x))) u → wp (wpm (d + 2)) cd_X8_covers Q 46 [vR 139, vI k, vI m, vI t, vI r, vI x] [] u c s
  | 0, x, r, h1, h2, h3, h4, h => by
    refine run [(46, [])] 60 ?_
    repeat first
      | refine z_gq (by first | omega | (simp [hI_sI, hI_sF, hI_sR, hI_nw, hI_ff, hI_fl, hI_cp]; try omega)) ?_
      | refine z_iq rfl (by first | omega | (simp [hI_sI, hI_sF, hI_sR, hI_nw, hI_ff, hI_fl, hI_cp]; try omega)) (by first | omega | (simp [hI_sI, hI_sF, hI_sR, hI_nw, hI_ff, hI_fl, hI_cp]; try omega)) ?_
      | refine z_dq (mS.now hS) ?_
      | refine z_dq (mS.floats hS) ?_
      | refine z_dq (mS.sizes hS) ?_
      | refine z_dq (mS.shut hS) ?_
      | refine z_dq (mS.past hS) ?_
      | refine z_dq (mS.deeds hS) ?_
      | refine z_dq (mS.images hS) ?_
      | refine z_dq (mS.imageShut hS) ?_
      | refine z_dq (mS.kept hS) ?_
      | refine z_dq (mS.owner hS) ?_
      | refine z_dq (mS.old hS) ?_
      | refine z_dq (mS.letters hS) ?_
      | refine z_dq (mS.toldSizes hS) ?_
      | refine z_dq (mS.sort hS) ?_
      | refine z_dq (mS.room hS) ?_
      | refine z_dq (mS.things hS) ?_
    refine z_bq (fun hz => by omega) (fun hz => ?_)
    rw [cn_0, Int.add_zero] at h
    exact h
  | n + 1, x, r, h1, h2, h3, h4, h => by
    rw [cn_s] at h
    refine run [(46, [])] 60 ?_
    repeat first
      | refine z_gq (by first | omega | (simp [hI_sI, hI_sF, hI_sR, hI_nw, hI_ff, hI_fl, hI_cp]; try omega)) ?_
      | refine z_iq rfl (by first | omega | (simp [hI_sI, hI_sF, hI_sR, hI_nw, hI_ff, hI_fl, hI_cp]; try omega)) (by first | omega | (simp [hI_sI, hI_sF, hI_sR, hI_nw, hI_ff, hI_fl, hI_cp]; try omega)) ?_
      | refine z_dq (mS.now hS) ?_
      | refine z_dq (mS.floats hS) ?_
      | refine z_dq (mS.sizes hS) ?_
      | refine z_dq (mS.shut hS) ?_
      | refine z_dq (mS.past hS) ?_
      | refine z_dq (mS.deeds hS) ?_
      | refine z_dq (mS.images hS) ?_
      | refine z_dq (mS.imageShut hS) ?_
      | refine z_dq (mS.kept hS) ?_
      | refine z_dq (mS.owner hS) ?_
      | refine z_dq (mS.old hS) ?_
      | refine z_dq (mS.letters hS) ?_
      | refine z_dq (mS.toldSizes hS) ?_
      | refine z_dq (mS.sort hS) ?_
      | refine z_dq (mS.room hS) ?_
      | refine z_dq (mS.things hS) ?_
    refine z_bq (fun hz => ?_) (fun hz => by omega)
    refine c_spanAt hS hk hK hG ?_
    refine z_bq (fun hy => ?_) (fun hy => ?_)
    · rw [if_neg (by simp [hy]), ← Int.add_assoc] at h
      repeat first
        | refine z_gq (by first | omega | (simp [hI_sI, hI_sF, hI_sR, hI_nw, hI_ff, hI_fl, hI_cp]; try omega)) ?_
        | refine z_iq rfl (by first | omega | (simp [hI_sI, hI_sF, hI_sR, hI_nw, hI_ff, hI_fl, hI_cp]; try omega)) (by first | omega | (simp [hI_sI, hI_sF, hI_sR, hI_nw, hI_ff, hI_fl, hI_cp]; try omega)) ?_
        | refine z_dq (mS.now hS) ?_
        | refine z_dq (mS.floats hS) ?_
        | refine z_dq (mS.sizes hS) ?_
        | refine z_dq (mS.shut hS) ?_
        | refine z_dq (mS.past hS) ?_
        | refine z_dq (mS.deeds hS) ?_
        | refine z_dq (mS.images hS) ?_
        | refine z_dq (mS.imageShut hS) ?_
        | refine z_dq (mS.kept hS) ?_
        | refine z_dq (mS.owner hS) ?_
        | refine z_dq (mS.old hS) ?_
        | refine z_dq (mS.letters hS) ?_
        | refine z_dq (mS.toldSizes hS) ?_
        | refine z_dq (mS.sort hS) ?_
        | refine z_dq (mS.room hS) ?_
        | refine z_dq (mS.things hS) ?_
      exact w_mcovers hS hk hK hG hm ht n (x + 1) (r + 0) (by omega) (by omega) (by omega) (by omega) h
    · rw [if_pos (by simp [hy]), ← Int.add_assoc] at h
      repeat first
        | refine z_gq (by first | omega | (simp [hI_sI, hI_sF, hI_sR, hI_nw, hI_ff, hI_fl, hI_cp]; try omega)) ?_
        | refine z_iq rfl (by first | omega | (simp [hI_sI, hI_sF, hI_sR, hI_nw, hI_ff, hI_fl, hI_cp]; try omega)) (by first | omega | (simp [hI_sI, hI_sF, hI_sR, hI_nw, hI_ff, hI_fl, hI_cp]; try omega)) ?_
        | refine z_dq (mS.now hS) ?_
        | refine z_dq (mS.floats hS) ?_
        | refine z_dq (mS.sizes hS) ?_
        | refine z_dq (mS.shut hS) ?_
        | refine z_dq (mS.past hS) ?_
        | refine z_dq (mS.deeds hS) ?_
        | refine z_dq (mS.images hS) ?_
        | refine z_dq (mS.imageShut hS) ?_
        | refine z_dq (mS.kept hS) ?_
        | refine z_dq (mS.owner hS) ?_
        | refine z_dq (mS.old hS) ?_
        | refine z_dq (mS.letters hS) ?_
        | refine z_dq (mS.toldSizes hS) ?_
        | refine z_dq (mS.sort hS) ?_
        | refine z_dq (mS.room hS) ?_
        | refine z_dq (mS.things hS) ?_
      exact w_mcovers hS hk hK hG hm ht n (x + 1) (r + 1) (by omega) (by omega) (by omega) (by omega) h
theorem c_covers {d : Nat} {k m t : Int} {u : aS} {Q : aQ} {A : Al} (hA : mA u A) (hV : vTr A.2.2.2.1) (h : Q (some (vI (oCovers A.2.2.2.1 k m t))) u) : wpm (d + 3) M_X8_covers [vR 139, vI k, vI m, vI t] u Q := by
  have hS := hA.1
  unfold oCovers at h
  refine e_X8_covers rfl (run [(46, [])] 60 ?_)
  refine c_isTrack (fun k0 k1 => ?_) (fun k0 => ?_)
  · rw [if_neg (by omega)] at h
    refine c_in (fun m0 m1 => ?_) (fun m0 => ?_)
    · repeat first
        | refine z_gq (by first | omega | (simp [hI_sI, hI_sF, hI_sR, hI_nw, hI_ff, hI_fl, hI_cp]; try omega)) ?_
        | refine z_iq rfl (by first | omega | (simp [hI_sI, hI_sF, hI_sR, hI_nw, hI_ff, hI_fl, hI_cp]; try omega)) (by first | omega | (simp [hI_sI, hI_sF, hI_sR, hI_nw, hI_ff, hI_fl, hI_cp]; try omega)) ?_
        | refine z_dq (mS.now hS) ?_
        | refine z_dq (mS.floats hS) ?_
        | refine z_dq (mS.sizes hS) ?_
        | refine z_dq (mS.shut hS) ?_
        | refine z_dq (mS.past hS) ?_
        | refine z_dq (mS.deeds hS) ?_
        | refine z_dq (mS.images hS) ?_
        | refine z_dq (mS.imageShut hS) ?_
        | refine z_dq (mS.kept hS) ?_
        | refine z_dq (mS.owner hS) ?_
        | refine z_dq (mS.old hS) ?_
        | refine z_dq (mS.letters hS) ?_
        | refine z_dq (mS.toldSizes hS) ?_
        | refine z_dq (mS.sort hS) ?_
        | refine z_dq (mS.room hS) ?_
        | refine z_dq (mS.things hS) ?_
      refine c_in (fun t0 t1 => ?_) (fun t0 => ?_)
      · rw [if_neg (by omega)] at h
        have hG := (hV.now k0 k1).1
        refine w_mcovers hS ⟨k0, k1⟩ (hA.2.2.2.2.1 k k0 k1).1 hG ⟨m0, m1⟩ ⟨t0, t1⟩ m.toNat t 0 (by omega) (by omega) (by omega) (by omega) (q_eq h ?_)
        rw [cn_own _ 0 0 _ _ (by omega) hG.1, Int.zero_add, show t + ((m.toNat : Nat) : Int) = t + m by omega]
      · rw [if_pos (by omega)] at h
        exact h
    · rw [if_pos (by omega)] at h
      exact h
  · rw [if_pos k0] at h
    exact h
