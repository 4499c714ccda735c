/-! how often, gaps, shut, silent, loudest -/
def tmC (s i : Int) : List Sp → Int
  | [] => 0
  | p :: r => (if q0 p = s ∧ q1 p ≤ i ∧ i ≤ q1 p + q2 p - 1 then 1 else 0) + tmC s i r
def tmP (s i : Int) : List Sp → Int → Bool
  | [], _ => false
  | p :: r, x => if q3 p ≤ x ∧ x < qe p then decide (q0 p = s ∧ q1 p + x - q3 p = i) else tmP s i r x
theorem spA_0 (p : Sp) (r : List Sp) : spA (p :: r) 0 = p := rfl
theorem spA_s (p : Sp) (r : List Sp) {y : Int} (h : 0 ≤ y) : spA (p :: r) (y + 1) = spA r y := by
  unfold spA
  rw [show (y + 1).toNat = y.toNat + 1 by omega, List.getElem?_cons_succ]
theorem tmP_o (s i x : Int) : ∀ (l : List Sp) (k : Int), 0 ≤ k → (oR (en k l) x = -1 → tmP s i l x = false) ∧ (¬ oR (en k l) x = -1 → tmP s i l x = decide (q0 (spA l (oR (en k l) x - k)) = s ∧ q1 (spA l (oR (en k l) x - k)) + x - q3 (spA l (oR (en k l) x - k)) = i))
  | [], k, hk => ⟨fun _ => rfl, fun h => absurd rfl h⟩
  | p :: r, k, hk => by
    have ih := tmP_o s i x r (k + 1) (by omega)
    have e : oR (en k (p :: r)) x = if q3 p ≤ x ∧ x < qe p then k else oR (en (k + 1) r) x := rfl
    unfold tmP
    rw [e]
    by_cases hx : q3 p ≤ x ∧ x < qe p
    · rw [if_pos hx, if_pos hx, Int.sub_self, spA_0]
      exact ⟨fun h => by omega, fun _ => rfl⟩
    · rw [if_neg hx, if_neg hx]
      refine ⟨ih.1, fun h => ?_⟩
      obtain ⟨f, f1, f2, f3, f4⟩ := oR_ex h
      have g := en_mem f1
      have := ih.2 h
      rw [show oR (en (k + 1) r) x - k = oR (en (k + 1) r) x - (k + 1) + 1 by omega, spA_s p r (by omega)]
      exact this
theorem tmP_lo {s i x : Int} : ∀ {l : List Sp} {lo : Int}, SL lo l → tmP s i l x = true → lo ≤ x
  | [], _, _, h => by simp [tmP] at h
  | p :: r, lo, hs, h => by
    unfold tmP at h
    have h1 := hs.1
    by_cases hx : q3 p ≤ x ∧ x < qe p
    · omega
    · rw [if_neg hx] at h
      have := tmP_lo hs.2 h
      unfold qe at this
      omega
theorem cn_tm {s i : Int} : ∀ (l : List Sp) (lo : Int), 0 ≤ lo → SL lo l → cn (tmP s i l) 128 0 = tmC s i l
  | [], _, _, _ => cn_n 128 0 (fun _ _ _ => rfl)
  | p :: r, lo, h0, h => by
    have h1 := h.1
    have eq : qe p = q3 p + q2 p := rfl
    unfold tmC
    rw [← cn_tm r (qe p) (by omega) h.2]
    have e : cn (tmP s i (p :: r)) 128 0 = cn (fun x => decide ((q3 p ≤ x ∧ x < qe p) ∧ q0 p = s ∧ q1 p + x - q3 p = i) || tmP s i r x) 128 0 := by
      refine cn_e 128 0 (fun j _ _ => ?_)
      show (if q3 p ≤ j ∧ j < qe p then decide (q0 p = s ∧ q1 p + j - q3 p = i) else tmP s i r j) = (decide ((q3 p ≤ j ∧ j < qe p) ∧ q0 p = s ∧ q1 p + j - q3 p = i) || tmP s i r j)
      by_cases hx : q3 p ≤ j ∧ j < qe p
      · have hf : tmP s i r j = false := by
          apply Bool.eq_false_iff.mpr
          intro z
          have := tmP_lo h.2 z
          omega
        rw [if_pos hx, hf, Bool.or_false]
        apply decide_eq_decide.mpr
        omega
      · rw [if_neg hx, decide_eq_false (fun z => hx z.1), Bool.false_or]
    rw [e, cn_or]
    · congr 1
      by_cases hc : q0 p = s ∧ q1 p ≤ i ∧ i ≤ q1 p + q2 p - 1
      · rw [if_pos hc, cn_e (q := fun x => decide (i - q1 p + q3 p ≤ x ∧ x < i - q1 p + q3 p + 1)) 128 0, cn_iv]
        · omega
        · intro j _ _
          apply decide_eq_decide.mpr
          omega
      · rw [if_neg hc]
        refine cn_n 128 0 (fun j _ _ => ?_)
        apply decide_eq_false
        omega
    · intro j _ _ hj
      simp at hj
      apply Bool.eq_false_iff.mpr
      intro z
      have := tmP_lo h.2 z
      omega
theorem tmC_b (s i : Int) : ∀ (l : List Sp), 0 ≤ tmC s i l ∧ tmC s i l ≤ l.length
  | [] => ⟨Int.le_refl _, Int.le_refl _⟩
  | p :: r => by
    have ih := tmC_b s i r
    unfold tmC
    simp
    split <;> omega
theorem w_timesT {d : Nat} {Q : aQ} {o : Nat} {a b N : Int} {u : aS} (ho : isTp o) (hr : hR u o 0 = some (o + 1)) (hn : hI u o 1 = N) (hN : N ≤ 14) {c s : Nat} : ∀ (r : List Sp) (i m : Int) (w : aV), cRw u o i r → i + r.length = N → 0 ≤ i → 0 ≤ m → m ≤ i → (∀ p, p ∈ r → vP p) → Q (some (vI (m + tmC a b r))) u → wp (wpm (d + 1)) cd_X4_timesOf Q 5 [vR o, vI a, vI b, vI m, vI i, w] [] u c s
  | [], i, m, w, hw, h1, h2, h3, h4, hv, h => by
    simp at h1
    refine run [(5, [])] 60 ?_
    repeat first
      | refine z_gq (by first | omega | (simp [hI_sI, hI_sF, hI_sR, hI_nw, hI_ff, hI_fl, hI_cp]; try omega)) ?_
      | refine z_iq rfl (by first | omega | (simp [hI_sI, hI_sF, hI_sR, hI_nw, hI_ff, hI_fl, hI_cp]; try omega)) (by first | omega | (simp [hI_sI, hI_sF, hI_sR, hI_nw, hI_ff, hI_fl, hI_cp]; try omega)) ?_
      | refine z_kq (ho.1) ?_
    refine z_bq (fun hz => by omega) (fun hz => ?_)
    exact q_eq h (by show m = m + 0; omega)
  | p :: r, i, m, w, hw, h1, h2, h3, h4, hv, h => by
    obtain ⟨⟨y, y1, y2⟩, hw2⟩ := cRw_c hw
    have ky := kd_s1 y2.1.1
    have vp := hv p (List.mem_cons_self ..)
    unfold vP at vp
    have e0 : hI u y 0 = q0 p := y2.2.1
    have e1 : hI u y 1 = q1 p := y2.2.2.1
    have e2 : hI u y 2 = q2 p := y2.2.2.2.1
    simp at h1
    obtain ⟨o0, o1, o2⟩ := ho
    have h' : Q (some (vI (m + ((if q0 p = a ∧ q1 p ≤ b ∧ b ≤ q1 p + q2 p - 1 then 1 else 0) + tmC a b r)))) u := h
    have no : ¬ (q0 p = a ∧ q1 p ≤ b ∧ b ≤ q1 p + q2 p - 1) → wp (wpm (d + 1)) cd_X4_timesOf Q 60 [vR o, vI a, vI b, vI m, vI i, vR y] [] u c s := by
      intro hc
      rw [if_neg hc] at h'
      refine run [(5, [])] 60 ?_
      repeat first
        | refine z_gq (by first | omega | (simp [hI_sI, hI_sF, hI_sR, hI_nw, hI_ff, hI_fl, hI_cp]; try omega)) ?_
        | refine z_iq rfl (by first | omega | (simp [hI_sI, hI_sF, hI_sR, hI_nw, hI_ff, hI_fl, hI_cp]; try omega)) (by first | omega | (simp [hI_sI, hI_sF, hI_sR, hI_nw, hI_ff, hI_fl, hI_cp]; try omega)) ?_
      exact w_timesT ⟨o0, o1, o2⟩ hr hn hN r (i + 1) m _ hw2 (by omega) (by omega) (by omega) (by omega) (fun q hq => hv q (List.mem_cons_of_mem _ hq)) (q_eq h' (by omega))
    refine run [(5, []), (60, [])] 60 ?_
    repeat first
      | refine z_gq (by first | omega | (simp [hI_sI, hI_sF, hI_sR, hI_nw, hI_ff, hI_fl, hI_cp]; try omega)) ?_
      | refine z_iq rfl (by first | omega | (simp [hI_sI, hI_sF, hI_sR, hI_nw, hI_ff, hI_fl, hI_cp]; try omega)) (by first | omega | (simp [hI_sI, hI_sF, hI_sR, hI_nw, hI_ff, hI_fl, hI_cp]; try omega)) ?_
      | refine z_kq (o0) ?_
    refine z_bq (fun hz => ?_) (fun hz => by omega)
    repeat first
      | refine z_gq (by first | omega | (simp [hI_sI, hI_sF, hI_sR, hI_nw, hI_ff, hI_fl, hI_cp]; try omega)) ?_
      | refine z_iq rfl (by first | omega | (simp [hI_sI, hI_sF, hI_sR, hI_nw, hI_ff, hI_fl, hI_cp]; try omega)) (by first | omega | (simp [hI_sI, hI_sF, hI_sR, hI_nw, hI_ff, hI_fl, hI_cp]; try omega)) ?_
      | refine z_kq (o0) ?_
      | refine z_iq (o1) (by first | omega | (simp [hI_sI, hI_sF, hI_sR, hI_nw, hI_ff, hI_fl, hI_cp]; try omega)) (by first | omega | (simp [hI_sI, hI_sF, hI_sR, hI_nw, hI_ff, hI_fl, hI_cp]; try omega)) ?_
      | refine z_dq (hr) ?_
      | refine z_dq (y1) ?_
      | refine z_kq (ky) ?_
    refine z_bq (fun hy => ?_) (fun hy => ?_)
    · repeat first
        | refine z_gq (by first | omega | (simp [hI_sI, hI_sF, hI_sR, hI_nw, hI_ff, hI_fl, hI_cp]; try omega)) ?_
        | refine z_iq rfl (by first | omega | (simp [hI_sI, hI_sF, hI_sR, hI_nw, hI_ff, hI_fl, hI_cp]; try omega)) (by first | omega | (simp [hI_sI, hI_sF, hI_sR, hI_nw, hI_ff, hI_fl, hI_cp]; try omega)) ?_
        | refine z_kq (ky) ?_
      refine k_within (fun a0 a1 => ?_) (fun a0 => ?_)
      · rw [if_pos (by omega)] at h'
        repeat first
          | refine z_gq (by first | omega | (simp [hI_sI, hI_sF, hI_sR, hI_nw, hI_ff, hI_fl, hI_cp]; try omega)) ?_
          | refine z_iq rfl (by first | omega | (simp [hI_sI, hI_sF, hI_sR, hI_nw, hI_ff, hI_fl, hI_cp]; try omega)) (by first | omega | (simp [hI_sI, hI_sF, hI_sR, hI_nw, hI_ff, hI_fl, hI_cp]; try omega)) ?_
        refine run [(5, [])] 60 ?_
        repeat first
          | refine z_gq (by first | omega | (simp [hI_sI, hI_sF, hI_sR, hI_nw, hI_ff, hI_fl, hI_cp]; try omega)) ?_
          | refine z_iq rfl (by first | omega | (simp [hI_sI, hI_sF, hI_sR, hI_nw, hI_ff, hI_fl, hI_cp]; try omega)) (by first | omega | (simp [hI_sI, hI_sF, hI_sR, hI_nw, hI_ff, hI_fl, hI_cp]; try omega)) ?_
        exact w_timesT ⟨o0, o1, o2⟩ hr hn hN r (i + 1) (m + 1) _ hw2 (by omega) (by omega) (by omega) (by omega) (fun q hq => hv q (List.mem_cons_of_mem _ hq)) (q_eq h' (by omega))
      · exact no (by omega)
    · exact no (by omega)
theorem w_timesA {d : Nat} {Q : aQ} {a b : Int} {u : aS} {A : Al} (hA : cA u A) (hV : vTr A.2.2.2.1) {c s : Nat} : ∀ (n : Nat) (k r : Int), k + n = 4 → 0 ≤ k → 0 ≤ r → r ≤ 12 * k → Q (some (vI (r + sm (fun k => tmC a b (A.2.2.2.1 k).1.1) n k))) u → wp (wpm (d + 2)) cd_X7_timesOf Q 5 [vR 8, vI a, vI b, vI r, vI k] [] u c s
  | 0, k, r, h1, h2, h3, h4, h => by
    refine run [(5, [])] 60 ?_
    refine z_bq (fun hz => by omega) (fun hz => ?_)
    exact q_eq h (by show r = r + 0; omega)
  | n + 1, k, r, h1, h2, h3, h4, h => by
    have hS := hA.1
    have k1 : k ≤ 3 := by omega
    obtain ⟨t, r0, tp, c0⟩ := k_nowcount hA h2 k1
    have kB := (isB_k h2 k1).k0
    have l0 := hV.len h2 k1
    have tb := tmC_b a b (A.2.2.2.1 k).1.1
    refine run [(5, [])] 60 ?_
    refine z_bq (fun hz => ?_) (fun hz => by omega)
    repeat first
      | refine z_gq (by first | omega | (simp [hI_sI, hI_sF, hI_sR, hI_nw, hI_ff, hI_fl, hI_cp]; try omega)) ?_
      | refine z_iq rfl (by first | omega | (simp [hI_sI, hI_sF, hI_sR, hI_nw, hI_ff, hI_fl, hI_cp]; try omega)) (by first | omega | (simp [hI_sI, hI_sF, hI_sR, hI_nw, hI_ff, hI_fl, hI_cp]; try omega)) ?_
      | refine z_dq (hS.tracks) ?_
      | refine z_dq (hS.track h2 k1) ?_
      | refine z_kq (kB) ?_
      | refine z_dq (r0) ?_
      | refine z_kq (tp.1) ?_
    refine e_X4_timesOf (args := [vR t, vI a, vI b]) rfl (run [(5, [])] 60 ?_)
    refine w_timesT tp c0.1.1 c0.2.1 (by omega) _ 0 0 _ (cRw_0 c0) (by omega) (by omega) (by omega) (by omega) (hV.now h2 k1).1.2.2 ?_
    rw [Int.zero_add]
    repeat first
      | refine z_gq (by first | omega | (simp [hI_sI, hI_sF, hI_sR, hI_nw, hI_ff, hI_fl, hI_cp]; try omega)) ?_
      | refine z_iq rfl (by first | omega | (simp [hI_sI, hI_sF, hI_sR, hI_nw, hI_ff, hI_fl, hI_cp]; try omega)) (by first | omega | (simp [hI_sI, hI_sF, hI_sR, hI_nw, hI_ff, hI_fl, hI_cp]; try omega)) ?_
    refine w_timesA hA hV n (k + 1) _ (by omega) (by omega) (by omega) (by omega) (q_eq h ?_)
    show r + tmC a b (A.2.2.2.1 k).1.1 + _ = r + (tmC a b (A.2.2.2.1 k).1.1 + _)
    rw [Int.add_assoc]
def oTimes (T : Tr) (a b : Int) : Int := sm (fun k => tmC a b (T k).1.1) 4 0
theorem k_timesOf {d : Nat} {a b : Int} {u : aS} {Q : aQ} {A : Al} (hA : cA u A) (hV : vTr A.2.2.2.1) (h : Q (some (vI (oTimes A.2.2.2.1 a b))) u) : wpm (d + 3) M_X7_timesOf [vR 8, vI a, vI b] u Q := by
  refine e_X7_timesOf rfl (run [(5, [])] 60 ?_)
  refine w_timesA hA hV 4 0 0 (by omega) (by omega) (by omega) (by omega) ?_
  rw [Int.zero_add]
  exact h
theorem w_mtimes1 {d : Nat} {Q : aQ} {a b k R : Int} {K : Tk} {u : aS} (hS : mS u) (hk : 0 ≤ k ∧ k ≤ 3) (hK : mTk u 142 (86 * k) K) (hG : vG K.1) {c s : Nat} (h : ∀ w, wp (wpm (d + 2)) cd_X8_times Q 91 [vR 139, vI a, vI b, vI R, vI k, vI 128, w] [] u c s) : ∀ (n : Nat) (x r : Int) (w : aV), x + n = 128 → 0 ≤ x → 0 ≤ r → r ≤ 128 * k + x → r + cn (tmP a b K.1) n x = R → wp (wpm (d + 2)) cd_X8_times Q 14 [vR 139, vI a, vI b, vI r, vI k, vI x, w] [] u c s
  | 0, x, r, w, h1, h2, h3, h4, h5 => by
    refine run [(14, []), (91, [])] 60 ?_
    refine z_bq (fun hz => by omega) (fun hz => ?_)
    rw [cn_0, Int.add_zero] at h5
    subst h5
    have e : x = 128 := by omega
    subst e
    exact h w
  | n + 1, x, r, w, h1, h2, h3, h4, h5 => by
    have tp := tmP_o a b x K.1 0 (by omega)
    have ob := own_b (l := K.1) x
    have l12 := hG.2.1
    rw [cn_s] at h5
    have no : tmP a b K.1 x = false → wp (wpm (d + 2)) cd_X8_times Q 82 [vR 139, vI a, vI b, vI r, vI k, vI x, vI (oR (en 0 K.1) x)] [vI r] u c s := by
      intro hf
      rw [hf] at h5
      refine run [(14, [])] 60 ?_
      repeat first
        | refine z_gq (by first | omega | (simp [hI_sI, hI_sF, hI_sR, hI_nw, hI_ff, hI_fl, hI_cp]; try omega)) ?_
        | refine z_iq rfl (by first | omega | (simp [hI_sI, hI_sF, hI_sR, hI_nw, hI_ff, hI_fl, hI_cp]; try omega)) (by first | omega | (simp [hI_sI, hI_sF, hI_sR, hI_nw, hI_ff, hI_fl, hI_cp]; try omega)) ?_
        | refine z_dq (mS.now hS) ?_
        | refine z_dq (mS.floats hS) ?_
        | refine z_dq (mS.sizes hS) ?_
        | refine z_dq (mS.shut hS) ?_
        | refine z_dq (mS.past hS) ?_
        | refine z_dq (mS.deeds hS) ?_
        | refine z_dq (mS.images hS) ?_
        | refine z_dq (mS.imageShut hS) ?_
        | refine z_dq (mS.kept hS) ?_
        | refine z_dq (mS.owner hS) ?_
        | refine z_dq (mS.old hS) ?_
        | refine z_dq (mS.letters hS) ?_
        | refine z_dq (mS.toldSizes hS) ?_
        | refine z_dq (mS.sort hS) ?_
        | refine z_dq (mS.room hS) ?_
        | refine z_dq (mS.things hS) ?_
      refine w_mtimes1 hS hk hK hG h n (x + 1) (r + 0) _ (by omega) (by omega) (by omega) (by omega) ?_
      simp at h5
      omega
    refine run [(14, []), (91, []), (82, [])] 60 ?_
    refine z_bq (fun hz => ?_) (fun hz => by omega)
    refine c_spanAt hS hk hK hG ?_
    refine z_bq (fun hy => ?_) (fun hy => ?_)
    · exact no (tp.1 hy)
    · have t2 := tp.2 hy
      rw [Int.sub_zero] at t2
      have sp := mTk_sp hK (show 0 ≤ oR (en 0 K.1) x by omega) (by omega)
      have sm := spA_mem (l := K.1) (i := oR (en 0 K.1) x) (by omega) (by omega)
      have vp := hG.2.2 _ sm.1
      unfold vP at vp
      obtain ⟨s0, s1, s2, s3, s4, s5, s6⟩ := sp
      have s0' : hI u 142 (86 * k + 7 * oR (en 0 K.1) x + 0) = q0 (spA K.1 (oR (en 0 K.1) x)) := by
        rw [Int.add_zero]
        exact s0
      have hi : 0 ≤ oR (en 0 K.1) x ∧ oR (en 0 K.1) x ≤ 11 := by omega
      refine c_of hS hk hi (by omega) ?_
      refine z_bq (fun h0 => ?_) (fun h0 => ?_)
      · refine c_of hS hk hi (by omega) ?_
        repeat first
          | refine z_gq (by first | omega | (simp [hI_sI, hI_sF, hI_sR, hI_nw, hI_ff, hI_fl, hI_cp]; try omega)) ?_
          | refine z_iq rfl (by first | omega | (simp [hI_sI, hI_sF, hI_sR, hI_nw, hI_ff, hI_fl, hI_cp]; try omega)) (by first | omega | (simp [hI_sI, hI_sF, hI_sR, hI_nw, hI_ff, hI_fl, hI_cp]; try omega)) ?_
          | refine z_dq (mS.now hS) ?_
          | refine z_dq (mS.floats hS) ?_
          | refine z_dq (mS.sizes hS) ?_
          | refine z_dq (mS.shut hS) ?_
          | refine z_dq (mS.past hS) ?_
          | refine z_dq (mS.deeds hS) ?_
          | refine z_dq (mS.images hS) ?_
          | refine z_dq (mS.imageShut hS) ?_
          | refine z_dq (mS.kept hS) ?_
          | refine z_dq (mS.owner hS) ?_
          | refine z_dq (mS.old hS) ?_
          | refine z_dq (mS.letters hS) ?_
          | refine z_dq (mS.toldSizes hS) ?_
          | refine z_dq (mS.sort hS) ?_
          | refine z_dq (mS.room hS) ?_
          | refine z_dq (mS.things hS) ?_
        refine c_of hS hk hi (by omega) ?_
        repeat first
          | refine z_gq (by first | omega | (simp [hI_sI, hI_sF, hI_sR, hI_nw, hI_ff, hI_fl, hI_cp]; try omega)) ?_
          | refine z_iq rfl (by first | omega | (simp [hI_sI, hI_sF, hI_sR, hI_nw, hI_ff, hI_fl, hI_cp]; try omega)) (by first | omega | (simp [hI_sI, hI_sF, hI_sR, hI_nw, hI_ff, hI_fl, hI_cp]; try omega)) ?_
          | refine z_dq (mS.now hS) ?_
          | refine z_dq (mS.floats hS) ?_
          | refine z_dq (mS.sizes hS) ?_
          | refine z_dq (mS.shut hS) ?_
          | refine z_dq (mS.past hS) ?_
          | refine z_dq (mS.deeds hS) ?_
          | refine z_dq (mS.images hS) ?_
          | refine z_dq (mS.imageShut hS) ?_
          | refine z_dq (mS.kept hS) ?_
          | refine z_dq (mS.owner hS) ?_
          | refine z_dq (mS.old hS) ?_
          | refine z_dq (mS.letters hS) ?_
          | refine z_dq (mS.toldSizes hS) ?_
          | refine z_dq (mS.sort hS) ?_
          | refine z_dq (mS.room hS) ?_
          | refine z_dq (mS.things hS) ?_
        refine z_bq (fun h6 => ?_) (fun h6 => ?_)
        · have ht : tmP a b K.1 x = true := by
            rw [t2]
            apply decide_eq_true
            omega
          rw [ht] at h5
          simp at h5
          repeat first
            | refine z_gq (by first | omega | (simp [hI_sI, hI_sF, hI_sR, hI_nw, hI_ff, hI_fl, hI_cp]; try omega)) ?_
            | refine z_iq rfl (by first | omega | (simp [hI_sI, hI_sF, hI_sR, hI_nw, hI_ff, hI_fl, hI_cp]; try omega)) (by first | omega | (simp [hI_sI, hI_sF, hI_sR, hI_nw, hI_ff, hI_fl, hI_cp]; try omega)) ?_
            | refine z_dq (mS.now hS) ?_
            | refine z_dq (mS.floats hS) ?_
            | refine z_dq (mS.sizes hS) ?_
            | refine z_dq (mS.shut hS) ?_
            | refine z_dq (mS.past hS) ?_
            | refine z_dq (mS.deeds hS) ?_
            | refine z_dq (mS.images hS) ?_
            | refine z_dq (mS.imageShut hS) ?_
            | refine z_dq (mS.kept hS) ?_
            | refine z_dq (mS.owner hS) ?_
            | refine z_dq (mS.old hS) ?_
            | refine z_dq (mS.letters hS) ?_
            | refine z_dq (mS.toldSizes hS) ?_
            | refine z_dq (mS.sort hS) ?_
            | refine z_dq (mS.room hS) ?_
            | refine z_dq (mS.things hS) ?_
          exact w_mtimes1 hS hk hK hG h n (x + 1) (r + 1) _ (by omega) (by omega) (by omega) (by omega) (by omega)
        · refine no ?_
          rw [t2]
          apply decide_eq_false
          omega
      · refine no ?_
        rw [t2]
        apply decide_eq_false
        omega
theorem w_mtimes2 {d : Nat} {Q : aQ} {a b : Int} {u : aS} {A : Al} (hA : mA u A) (hV : vTr A.2.2.2.1) {c s : Nat} : ∀ (n : Nat) (k r : Int) (w5 w6 : aV), k + n = 4 → 0 ≤ k → 0 ≤ r → r ≤ 12 * k → Q (some (vI (r + sm (fun k => tmC a b (A.2.2.2.1 k).1.1) n k))) u → wp (wpm (d + 2)) cd_X8_times Q 5 [vR 139, vI a, vI b, vI r, vI k, w5, w6] [] u c s
  | 0, k, r, w5, w6, h1, h2, h3, h4, h => by
    refine run [(5, [])] 60 ?_
    refine z_bq (fun hz => by omega) (fun hz => ?_)
    exact q_eq h (by show r = r + 0; omega)
  | n + 1, k, r, w5, w6, h1, h2, h3, h4, h => by
    have k1 : k ≤ 3 := by omega
    have hG := (hV.now h2 k1).1
    have tb := tmC_b a b (A.2.2.2.1 k).1.1
    have l0 := hG.2.1
    refine run [(5, []), (14, [])] 60 ?_
    refine z_bq (fun hz => ?_) (fun hz => by omega)
    refine w_mtimes1 (R := r + tmC a b (A.2.2.2.1 k).1.1) hA.1 ⟨h2, k1⟩ (hA.2.2.2.2.1 k h2 k1).1 hG (fun w => ?_) 128 0 r _ (by omega) (by omega) (by omega) (by omega) (by rw [cn_tm _ 0 (by omega) hG.1])
    refine run [(5, [])] 60 ?_
    repeat first
      | refine z_gq (by first | omega | (simp [hI_sI, hI_sF, hI_sR, hI_nw, hI_ff, hI_fl, hI_cp]; try omega)) ?_
      | refine z_iq rfl (by first | omega | (simp [hI_sI, hI_sF, hI_sR, hI_nw, hI_ff, hI_fl, hI_cp]; try omega)) (by first | omega | (simp [hI_sI, hI_sF, hI_sR, hI_nw, hI_ff, hI_fl, hI_cp]; try omega)) ?_
      | refine z_dq (mS.now hS) ?_
      | refine z_dq (mS.floats hS) ?_
      | refine z_dq (mS.sizes hS) ?_
      | refine z_dq (mS.shut hS) ?_
      | refine z_dq (mS.past hS) ?_
      | refine z_dq (mS.deeds hS) ?_
      | refine z_dq (mS.images hS) ?_
      | refine z_dq (mS.imageShut hS) ?_
      | refine z_dq (mS.kept hS) ?_
      | refine z_dq (mS.owner hS) ?_
      | refine z_dq (mS.old hS) ?_
      | refine z_dq (mS.letters hS) ?_
      | refine z_dq (mS.toldSizes hS) ?_
      | refine z_dq (mS.sort hS) ?_
      | refine z_dq (mS.room hS) ?_
      | refine z_dq (mS.things hS) ?_
    refine w_mtimes2 hA hV n (k + 1) _ _ _ (by omega) (by omega) (by omega) (by omega) (q_eq h ?_)
    show r + tmC a b (A.2.2.2.1 k).1.1 + _ = r + (tmC a b (A.2.2.2.1 k).1.1 + _)
    rw [Int.add_assoc]
theorem c_times {d : Nat} {a b : Int} {u : aS} {Q : aQ} {A : Al} (hA : mA u A) (hV : vTr A.2.2.2.1) (h : Q (some (vI (oTimes A.2.2.2.1 a b))) u) : wpm (d + 3) M_X8_times [vR 139, vI a, vI b] u Q := by
  refine e_X8_times rfl (run [(5, [])] 60 ?_)
  refine w_mtimes2 hA hV 4 0 0 _ _ (by omega) (by omega) (by omega) (by omega) ?_
  rw [Int.zero_add]
  exact h
/-! gaps -/
def gpC : Int → List Sp → Int
  | _, [] => 0
  | e, p :: r => (if e < q3 p then 1 else 0) + gpC (qe p) r
def gpM (f : Int → Bool) : Nat → Int → Bool → Int
  | 0, _, _ => 0
  | n + 1, x, o => (if f x && o then 1 else 0) + gpM f n (x + 1) (!f x)
theorem gp_eq {f : Int → Bool} : ∀ (n : Nat) (x e : Int) (r : List Sp) (i : Int) (o : Bool), x + n = 128 → 0 ≤ i → SL e r → (∀ y, e ≤ y → y < 128 → f y = decide (¬ oR (en i r) y = -1)) → (x < e ∧ e ≤ 128 ∧ o = false ∧ (∀ y, x ≤ y → y < e → f y = true) ∨ e ≤ x ∧ SL x r ∧ o = decide (e < x)) → gpM f n x o = gpC e r
  | 0, x, e, r, i, o, h1, hi, hs, hf, h => by
    rcases h with h | h
    · omega
    · cases r with
      | nil => rfl
      | cons p r =>
        have := h.2.1.1
        unfold qe at this
        omega
  | n + 1, x, e, r, i, o, h1, hi, hs, hf, h => by
    unfold gpM
    rcases h with ⟨h2, h3, h4, h5⟩ | ⟨h2, h3, h4⟩
    · rw [h4, h5 x (Int.le_refl _) h2]
      simp
      by_cases he : x + 1 < e
      · exact gp_eq n (x + 1) e r i false (by omega) hi hs hf (Or.inl ⟨he, h3, rfl, fun y a b => h5 y (by omega) b⟩)
      · have : x + 1 = e := by omega
        refine gp_eq n (x + 1) e r i false (by omega) hi hs hf (Or.inr ⟨by omega, by rw [this]; exact hs, ?_⟩)
        symm
        apply decide_eq_false
        omega
    · cases r with
      | nil =>
        have hx : f x = false := by
          rw [hf x h2 (by omega)]
          rfl
        rw [hx]
        simp
        have := gp_eq n (x + 1) e [] i true (by omega) hi hs hf (Or.inr ⟨by omega, trivial, (decide_eq_true (by omega)).symm⟩)
        exact this
      | cons p r =>
        have g1 := h3.1
        have eq : qe p = q3 p + q2 p := rfl
        by_cases hp : q3 p = x
        · have hx : f x = true := by
            rw [hf x h2 (by omega)]
            apply decide_eq_true
            show ¬ (if q3 p ≤ x ∧ x < qe p then i else oR (en (i + 1) r) x) = -1
            rw [if_pos (by omega)]
            omega
          rw [hx, h4]
          simp
          unfold gpC
          have hin : ∀ y, x + 1 ≤ y → y < qe p → f y = true := by
            intro y a b
            rw [hf y (by omega) (by omega)]
            apply decide_eq_true
            show ¬ (if q3 p ≤ y ∧ y < qe p then i else oR (en (i + 1) r) y) = -1
            rw [if_pos (by omega)]
            omega
          have hf2 : ∀ y, qe p ≤ y → y < 128 → f y = decide (¬ oR (en (i + 1) r) y = -1) := by
            intro y a b
            rw [hf y (by omega) b]
            apply decide_eq_decide.mpr
            show ¬ (if q3 p ≤ y ∧ y < qe p then i else oR (en (i + 1) r) y) = -1 ↔ _
            rw [if_neg (by omega)]
          have ih : gpM f n (x + 1) false = gpC (qe p) r := by
            by_cases he : x + 1 < qe p
            · exact gp_eq n (x + 1) (qe p) r (i + 1) false (by omega) (by omega) h3.2 hf2 (Or.inl ⟨he, g1.2.2, rfl, hin⟩)
            · have : x + 1 = qe p := by omega
              exact gp_eq n (x + 1) (qe p) r (i + 1) false (by omega) (by omega) h3.2 hf2 (Or.inr ⟨by omega, by rw [this]; exact h3.2, (decide_eq_false (by omega)).symm⟩)
          rw [ih, hp]
        · have hx : f x = false := by
            rw [hf x h2 (by omega)]
            apply decide_eq_false
            intro hn
            apply hn
            exact oR_out (RS_en (i := i) (l := p :: r) (lo := q3 p) ⟨⟨Int.le_refl _, g1.2⟩, h3.2⟩) (by omega)
          rw [hx]
          simp
          exact gp_eq n (x + 1) e (p :: r) i true (by omega) hi hs hf (Or.inr ⟨by omega, ⟨⟨by omega, g1.2⟩, h3.2⟩, (decide_eq_true (by omega)).symm⟩)
theorem gpC_b : ∀ (l : List Sp) (e : Int), 0 ≤ gpC e l ∧ gpC e l ≤ l.length
  | [], _ => ⟨Int.le_refl _, Int.le_refl _⟩
  | p :: r, e => by
    have ih := gpC_b r (qe p)
    unfold gpC
    simp
    split <;> omega
theorem w_gapsC {d : Nat} {Q : aQ} {o : Nat} {N : Int} {u : aS} (ho : isTp o) (hr : hR u o 0 = some (o + 1)) (hn : hI u o 1 = N) (hN : N ≤ 14) {c s : Nat} : ∀ (r : List Sp) (i m e : Int), cRw u o i r → i + r.length = N → 0 ≤ i → 0 ≤ m → m ≤ i → (∀ p, p ∈ r → vP p) → Q (some (vI (m + gpC e r))) u → wp (wpm (d + 1)) cd_X4_gaps Q 6 [vR o, vI m, vI e, vI i] [] u c s
  | [], i, m, e, hw, h1, h2, h3, h4, hv, h => by
    simp at h1
    refine run [(6, [])] 60 ?_
    repeat first
      | refine z_gq (by first | omega | (simp [hI_sI, hI_sF, hI_sR, hI_nw, hI_ff, hI_fl, hI_cp]; try omega)) ?_
      | refine z_iq rfl (by first | omega | (simp [hI_sI, hI_sF, hI_sR, hI_nw, hI_ff, hI_fl, hI_cp]; try omega)) (by first | omega | (simp [hI_sI, hI_sF, hI_sR, hI_nw, hI_ff, hI_fl, hI_cp]; try omega)) ?_
      | refine z_kq (ho.1) ?_
    refine z_bq (fun hz => by omega) (fun hz => ?_)
    exact q_eq h (by show m = m + 0; omega)
  | p :: r, i, m, e, hw, h1, h2, h3, h4, hv, h => by
    obtain ⟨⟨y, y1, y2⟩, hw2⟩ := cRw_c hw
    have ky := kd_s1 y2.1.1
    have vp := hv p (List.mem_cons_self ..)
    have e3 : hI u y 3 = q3 p := y2.2.2.2.2.1
    simp at h1
    obtain ⟨o0, o1, o2⟩ := ho
    have h' : Q (some (vI (m + ((if e < q3 p then 1 else 0) + gpC (qe p) r)))) u := h
    have key : ∀ m' : Int, 0 ≤ m' → m' ≤ i + 1 → m' = m + (if e < q3 p then 1 else 0) → wp (wpm (d + 1)) cd_X4_gaps Q 30 [vR o, vI m', vI e, vI i] [] u c s := by
      intro m' g0 g1 g2
      refine run [(6, [])] 60 ?_
      repeat first
        | refine z_gq (by first | omega | (simp [hI_sI, hI_sF, hI_sR, hI_nw, hI_ff, hI_fl, hI_cp]; try omega)) ?_
        | refine z_iq rfl (by first | omega | (simp [hI_sI, hI_sF, hI_sR, hI_nw, hI_ff, hI_fl, hI_cp]; try omega)) (by first | omega | (simp [hI_sI, hI_sF, hI_sR, hI_nw, hI_ff, hI_fl, hI_cp]; try omega)) ?_
        | refine z_kq (o0) ?_
        | refine z_iq (o1) (by first | omega | (simp [hI_sI, hI_sF, hI_sR, hI_nw, hI_ff, hI_fl, hI_cp]; try omega)) (by first | omega | (simp [hI_sI, hI_sF, hI_sR, hI_nw, hI_ff, hI_fl, hI_cp]; try omega)) ?_
        | refine z_dq (hr) ?_
        | refine z_dq (y1) ?_
        | refine z_kq (ky) ?_
      refine k_end y2 vp ?_
      repeat first
        | refine z_gq (by first | omega | (simp [hI_sI, hI_sF, hI_sR, hI_nw, hI_ff, hI_fl, hI_cp]; try omega)) ?_
        | refine z_iq rfl (by first | omega | (simp [hI_sI, hI_sF, hI_sR, hI_nw, hI_ff, hI_fl, hI_cp]; try omega)) (by first | omega | (simp [hI_sI, hI_sF, hI_sR, hI_nw, hI_ff, hI_fl, hI_cp]; try omega)) ?_
      refine w_gapsC ⟨o0, o1, o2⟩ hr hn hN r (i + 1) m' (qe p) hw2 (by omega) (by omega) g0 g1 (fun q hq => hv q (List.mem_cons_of_mem _ hq)) (q_eq h' ?_)
      rw [g2, Int.add_assoc]
    refine run [(6, []), (30, [])] 60 ?_
    repeat first
      | refine z_gq (by first | omega | (simp [hI_sI, hI_sF, hI_sR, hI_nw, hI_ff, hI_fl, hI_cp]; try omega)) ?_
      | refine z_iq rfl (by first | omega | (simp [hI_sI, hI_sF, hI_sR, hI_nw, hI_ff, hI_fl, hI_cp]; try omega)) (by first | omega | (simp [hI_sI, hI_sF, hI_sR, hI_nw, hI_ff, hI_fl, hI_cp]; try omega)) ?_
      | refine z_kq (o0) ?_
    refine z_bq (fun hz => ?_) (fun hz => by omega)
    repeat first
      | refine z_gq (by first | omega | (simp [hI_sI, hI_sF, hI_sR, hI_nw, hI_ff, hI_fl, hI_cp]; try omega)) ?_
      | refine z_iq rfl (by first | omega | (simp [hI_sI, hI_sF, hI_sR, hI_nw, hI_ff, hI_fl, hI_cp]; try omega)) (by first | omega | (simp [hI_sI, hI_sF, hI_sR, hI_nw, hI_ff, hI_fl, hI_cp]; try omega)) ?_
      | refine z_kq (o0) ?_
      | refine z_iq (o1) (by first | omega | (simp [hI_sI, hI_sF, hI_sR, hI_nw, hI_ff, hI_fl, hI_cp]; try omega)) (by first | omega | (simp [hI_sI, hI_sF, hI_sR, hI_nw, hI_ff, hI_fl, hI_cp]; try omega)) ?_
      | refine z_dq (hr) ?_
      | refine z_dq (y1) ?_
      | refine z_kq (ky) ?_
    refine z_bq (fun hy => ?_) (fun hy => ?_)
    · repeat first
        | refine z_gq (by first | omega | (simp [hI_sI, hI_sF, hI_sR, hI_nw, hI_ff, hI_fl, hI_cp]; try omega)) ?_
        | refine z_iq rfl (by first | omega | (simp [hI_sI, hI_sF, hI_sR, hI_nw, hI_ff, hI_fl, hI_cp]; try omega)) (by first | omega | (simp [hI_sI, hI_sF, hI_sR, hI_nw, hI_ff, hI_fl, hI_cp]; try omega)) ?_
      exact key (m + 1) (by omega) (by omega) (by rw [if_pos (by omega)])
    · exact key m (by omega) (by omega) (by rw [if_neg (by omega)]; omega)
theorem w_gapsM {d : Nat} {Q : aQ} {k : Int} {K : Tk} {u : aS} (hS : mS u) (hk : 0 ≤ k ∧ k ≤ 3) (hK : mTk u 142 (86 * k) K) (hG : vG K.1) {c s : Nat} : ∀ (n : Nat) (x r : Int) (o : Bool) (w : aV), x + n = 128 → 0 ≤ x → 0 ≤ r → r ≤ x → Q (some (vI (r + gpM (fun x => decide (¬ oR (en 0 K.1) x = -1)) n x o))) u → wp (wpm (d + 2)) cd_X8_gaps Q 7 [vR 139, vI k, vI r, vI (if o then 1 else 0), vI x, w] [] u c s
  | 0, x, r, o, w, h1, h2, h3, h4, h => by
    refine run [(7, [])] 60 ?_
    refine z_bq (fun hz => by omega) (fun hz => ?_)
    exact q_eq h (by show r = r + 0; omega)
  | n + 1, x, r, o, w, h1, h2, h3, h4, h => by
    unfold gpM at h
    refine run [(7, [])] 100 ?_
    refine z_bq (fun hz => ?_) (fun hz => by omega)
    refine c_spanAt hS hk hK hG ?_
    refine z_bq (fun hy => ?_) (fun hy => ?_)
    · have hf : decide (¬ oR (en 0 K.1) x = -1) = false := decide_eq_false (fun z => z hy)
      rw [hf] at h
      repeat first
        | refine z_gq (by first | omega | (simp [hI_sI, hI_sF, hI_sR, hI_nw, hI_ff, hI_fl, hI_cp]; try omega)) ?_
        | refine z_iq rfl (by first | omega | (simp [hI_sI, hI_sF, hI_sR, hI_nw, hI_ff, hI_fl, hI_cp]; try omega)) (by first | omega | (simp [hI_sI, hI_sF, hI_sR, hI_nw, hI_ff, hI_fl, hI_cp]; try omega)) ?_
        | refine z_dq (mS.now hS) ?_
        | refine z_dq (mS.floats hS) ?_
        | refine z_dq (mS.sizes hS) ?_
        | refine z_dq (mS.shut hS) ?_
        | refine z_dq (mS.past hS) ?_
        | refine z_dq (mS.deeds hS) ?_
        | refine z_dq (mS.images hS) ?_
        | refine z_dq (mS.imageShut hS) ?_
        | refine z_dq (mS.kept hS) ?_
        | refine z_dq (mS.owner hS) ?_
        | refine z_dq (mS.old hS) ?_
        | refine z_dq (mS.letters hS) ?_
        | refine z_dq (mS.toldSizes hS) ?_
        | refine z_dq (mS.sort hS) ?_
        | refine z_dq (mS.room hS) ?_
        | refine z_dq (mS.things hS) ?_
      refine w_gapsM hS hk hK hG n (x + 1) (r + 0) true _ (by omega) (by omega) (by omega) (by omega) (q_eq h ?_)
      simp
    · have hf : decide (¬ oR (en 0 K.1) x = -1) = true := decide_eq_true hy
      rw [hf] at h
      cases o with
      | true =>
        repeat first
          | refine z_gq (by first | omega | (simp [hI_sI, hI_sF, hI_sR, hI_nw, hI_ff, hI_fl, hI_cp]; try omega)) ?_
          | refine z_iq rfl (by first | omega | (simp [hI_sI, hI_sF, hI_sR, hI_nw, hI_ff, hI_fl, hI_cp]; try omega)) (by first | omega | (simp [hI_sI, hI_sF, hI_sR, hI_nw, hI_ff, hI_fl, hI_cp]; try omega)) ?_
          | refine z_dq (mS.now hS) ?_
          | refine z_dq (mS.floats hS) ?_
          | refine z_dq (mS.sizes hS) ?_
          | refine z_dq (mS.shut hS) ?_
          | refine z_dq (mS.past hS) ?_
          | refine z_dq (mS.deeds hS) ?_
          | refine z_dq (mS.images hS) ?_
          | refine z_dq (mS.imageShut hS) ?_
          | refine z_dq (mS.kept hS) ?_
          | refine z_dq (mS.owner hS) ?_
          | refine z_dq (mS.old hS) ?_
          | refine z_dq (mS.letters hS) ?_
          | refine z_dq (mS.toldSizes hS) ?_
          | refine z_dq (mS.sort hS) ?_
          | refine z_dq (mS.room hS) ?_
          | refine z_dq (mS.things hS) ?_
        refine w_gapsM hS hk hK hG n (x + 1) (r + 1) false _ (by omega) (by omega) (by omega) (by omega) (q_eq h ?_)
        simp
        omega
      | false =>
        repeat first
          | refine z_gq (by first | omega | (simp [hI_sI, hI_sF, hI_sR, hI_nw, hI_ff, hI_fl, hI_cp]; try omega)) ?_
          | refine z_iq rfl (by first | omega | (simp [hI_sI, hI_sF, hI_sR, hI_nw, hI_ff, hI_fl, hI_cp]; try omega)) (by first | omega | (simp [hI_sI, hI_sF, hI_sR, hI_nw, hI_ff, hI_fl, hI_cp]; try omega)) ?_
          | refine z_dq (mS.now hS) ?_
          | refine z_dq (mS.floats hS) ?_
          | refine z_dq (mS.sizes hS) ?_
          | refine z_dq (mS.shut hS) ?_
          | refine z_dq (mS.past hS) ?_
          | refine z_dq (mS.deeds hS) ?_
          | refine z_dq (mS.images hS) ?_
          | refine z_dq (mS.imageShut hS) ?_
          | refine z_dq (mS.kept hS) ?_
          | refine z_dq (mS.owner hS) ?_
          | refine z_dq (mS.old hS) ?_
          | refine z_dq (mS.letters hS) ?_
          | refine z_dq (mS.toldSizes hS) ?_
          | refine z_dq (mS.sort hS) ?_
          | refine z_dq (mS.room hS) ?_
          | refine z_dq (mS.things hS) ?_
        refine w_gapsM hS hk hK hG n (x + 1) (r + 0) false _ (by omega) (by omega) (by omega) (by omega) (q_eq h ?_)
        simp
theorem gp_all {l : List Sp} (h : SL 0 l) : gpM (fun x => decide (¬ oR (en 0 l) x = -1)) 128 0 false = gpC 0 l := gp_eq 128 0 0 l 0 false (by omega) (by omega) h (fun _ _ _ => rfl) (Or.inr ⟨by omega, h, (decide_eq_false (by omega)).symm⟩)
theorem c_gaps {d : Nat} {k : Int} {K : Tk} {u : aS} {Q : aQ} (hS : mS u) (hk : 0 ≤ k ∧ k ≤ 3) (hK : mTk u 142 (86 * k) K) (hG : vG K.1) (h : Q (some (vI (gpC 0 K.1))) u) : wpm (d + 3) M_X8_gaps [vR 139, vI k] u Q := by
  refine e_X8_gaps rfl (run [(7, [])] 60 ?_)
  refine w_gapsM hS hk hK hG 128 0 0 false _ (by omega) (by omega) (by omega) (by omega) (q_eq h ?_)
  rw [gp_all hG.1, Int.zero_add]
theorem k_gaps {d : Nat} {o : Nat} {K : Tk} {u : aS} {Q : aQ} (ho : isTp o) (hK : cTk u o K) (hG : vG K.1) (h : Q (some (vI (gpC 0 K.1))) u) : wpm (d + 2) M_X4_gaps [vR o] u Q := by
  have l12 := hG.2.1
  refine e_X4_gaps rfl (run [(6, [])] 60 ?_)
  refine w_gapsC ho hK.1.1 hK.2.1 (by omega) K.1 0 0 0 (cRw_0 hK) (by omega) (by omega) (by omega) (by omega) hG.2.2 (q_eq h ?_)
  omega
