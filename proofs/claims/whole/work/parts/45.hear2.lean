/-! what is heard: both sides -/
theorem plF_out {K : So} {l : List Sp} {x : Int} (hG : vG l) (hx : ¬ (0 ≤ x ∧ x ≤ 127)) : plF K l x = 0 := by
  unfold plF
  rw [if_pos]
  apply Classical.byContradiction
  intro hn
  obtain ⟨e, e1, e2, e3, e4⟩ := oR_ex hn
  have := RS_ge (RS_en (i := 0) hG.1) e1
  omega
theorem cSz {u : aS} {A : Al} (hA : cA u A) (hZ : vSz A.1) : (0 ≤ hI u 9 2 ∧ hI u 9 2 ≤ 6) ∧ ∀ s, 0 ≤ s → s < 6 → 0 ≤ hI u 17 s ∧ hI u 17 s ≤ 64 := by
  have hK := hA.2.2.1
  refine ⟨?_, fun s s0 s1 => ?_⟩
  · rw [hK.1]
    exact hZ.1
  · rw [hK.2.1 s s0 s1]
    exact (hZ.2 s s0 s1).1
theorem k_playedOn {d : Nat} {t : Nat} {K : Tk} {x : Int} {u : aS} {Q : aQ} {A : Al} (hA : cA u A) (hZ : vSz A.1) (hF : vSf A.1) (ht : isTp t) (hK : cTk u t K) (hG : vG K.1) (hQ : ∀ p, p ∈ K.1 → vQ A.1 p) (hx : -1000 ≤ x ∧ x ≤ 1000) (h : Q (some (vF (plF A.1 K.1 x))) u) : wpm (d + 4) M_X7_playedOn [vR 8, vR t, vI x] u Q := by
  have hS := hA.1
  have hSo := hA.2.2.1
  have kt := ht.1
  have kt1 := ht.2.1
  have z := hZ.1
  unfold plF at h
  refine e_X7_playedOn rfl (run [] 80 ?_)
  repeat first
    | refine z_gq (by first | omega | (simp [hI_sI, hI_sF, hI_sR, hI_nw, hI_ff, hI_fl, hI_cp]; try omega)) ?_
    | refine z_iq rfl (by first | omega | (simp [hI_sI, hI_sF, hI_sR, hI_nw, hI_ff, hI_fl, hI_cp]; try omega)) (by first | omega | (simp [hI_sI, hI_sF, hI_sR, hI_nw, hI_ff, hI_fl, hI_cp]; try omega)) ?_
    | refine z_kq (kt) ?_
  refine k_indexAt ht hK hG.2.1 hG.2.2 ?_
  refine z_bq (fun hn => ?_) (fun hn => ?_)
  · rw [if_pos hn] at h
    exact h
  · rw [if_neg hn] at h
    have ob := own_b (l := K.1) x
    have sm := spA_mem (l := K.1) (i := oR (en 0 K.1) x) (by omega) (by omega)
    have hin : q3 (spA K.1 (oR (en 0 K.1) x)) ≤ x ∧ x < qe (spA K.1 (oR (en 0 K.1) x)) := (own_iff hG.1 sm.2 x).mp rfl
    have vp := hG.2.2 _ sm.1
    have vq := hQ _ sm.1
    obtain ⟨y, y1, y2⟩ := cTk_get hK (show 0 ≤ oR (en 0 K.1) x by omega) (spA_get (by omega) (by omega))
    have ky := kd_s1 y2.1.1
    have l12 := hG.2.1
    have z1 := hK.1.1
    repeat first
      | refine z_gq (by first | omega | (simp [hI_sI, hI_sF, hI_sR, hI_nw, hI_ff, hI_fl, hI_cp]; try omega)) ?_
      | refine z_iq rfl (by first | omega | (simp [hI_sI, hI_sF, hI_sR, hI_nw, hI_ff, hI_fl, hI_cp]; try omega)) (by first | omega | (simp [hI_sI, hI_sF, hI_sR, hI_nw, hI_ff, hI_fl, hI_cp]; try omega)) ?_
      | refine z_kq (kt) ?_
      | refine z_dq (z1) ?_
      | refine z_iq (kt1) (by first | omega | (simp [hI_sI, hI_sF, hI_sR, hI_nw, hI_ff, hI_fl, hI_cp]; try omega)) (by first | omega | (simp [hI_sI, hI_sF, hI_sR, hI_nw, hI_ff, hI_fl, hI_cp]; try omega)) ?_
      | refine z_dq (y1) ?_
      | refine z_kq (ky) ?_
    generalize spA K.1 (oR (en 0 K.1) x) = p at *
    have vp' := vp
    unfold vP at vp'
    unfold vQ at vq
    unfold qe at hin
    have e0 : hI u y 0 = q0 p := y2.2.1
    have e1 : hI u y 1 = q1 p := y2.2.2.1
    have e3 : hI u y 3 = q3 p := y2.2.2.2.2.1
    obtain ⟨sc, sl⟩ := cSz hA hZ
    have es := hSo.1
    have el := hSo.2.1 (q0 p) (by omega) (by omega)
    have ev := hSo.2.2 (q0 p) (q1 p + (x - q3 p)) (by omega) (by omega) (by omega) (by omega) (by omega)
    repeat first
      | refine z_gq (by first | omega | (simp [hI_sI, hI_sF, hI_sR, hI_nw, hI_ff, hI_fl, hI_cp]; try omega)) ?_
      | refine z_iq rfl (by first | omega | (simp [hI_sI, hI_sF, hI_sR, hI_nw, hI_ff, hI_fl, hI_cp]; try omega)) (by first | omega | (simp [hI_sI, hI_sF, hI_sR, hI_nw, hI_ff, hI_fl, hI_cp]; try omega)) ?_
      | refine z_kq (ky) ?_
      | refine z_dq (hS.sounds) ?_
    rw [e0, e1, e3]
    refine k_floatAt hS sc sl (by omega) (by omega) ?_
    rw [ev]
    repeat first
      | refine z_gq (by first | omega | (simp [hI_sI, hI_sF, hI_sR, hI_nw, hI_ff, hI_fl, hI_cp]; try omega)) ?_
      | refine z_iq rfl (by first | omega | (simp [hI_sI, hI_sF, hI_sR, hI_nw, hI_ff, hI_fl, hI_cp]; try omega)) (by first | omega | (simp [hI_sI, hI_sF, hI_sR, hI_nw, hI_ff, hI_fl, hI_cp]; try omega)) ?_
      | refine z_kq (ky) ?_
    refine k_weigh y2 vp (by omega) (hF (q0 p) (q1 p + (x - q3 p)) (by omega) (by omega) (by omega) (by omega)).1 (by omega) ?_
    exact h
theorem w_heardAt {d : Nat} {t : Int} {u : aS} {Q : aQ} {A : Al} (hA : cA u A) (hZ : vSz A.1) (hF : vSf A.1) (hV : vTN A.2.2.2.1) (hQ : vQN A.1 A.2.2.2.1) (ht : 0 ≤ t ∧ t ≤ 127) {c s : Nat} : ∀ (n : Nat) (k : Int) (v : UInt32) (w : aV), k + n = 4 → 0 ≤ k → fb (126 + 15 * A.1.1.toNat + 2 * k.toNat) v → ¬ v = 2147483648 → Q (some (vF (hdG A.1 A.2.2.2.1 t n k v))) u → wp (wpm (d + 4)) cd_X7_heardAt Q 4 [vR 8, vI t, vF v, vI k, w] [] u c s
  | 0, k, v, w, h1, h2, h3, h4, h => by
    refine run [(4, [])] 60 ?_
    refine z_bq (fun hz => by omega) (fun hz => ?_)
    exact h
  | n + 1, k, v, w, h1, h2, h3, h4, h => by
    have hS := hA.1
    have k1 : k ≤ 3 := by omega
    have z := hZ.1
    obtain ⟨a0, a1, p0, p1, p2, p3, hW⟩ := hA.2.2.2.2.2.1 k h2 k1
    have hB := isB_k h2 k1
    have kB := hB.k0
    have tp0 := hB.tp hW.1.2.2.2.1.1
    have ka := tp0.1
    have r0 := hW.1.1.1
    obtain ⟨vk, vs⟩ := hV k h2 k1
    have e4 : hI u (50 + 20 * k.toNat) 4 = (A.2.2.2.1 k).2.2 := hW.2.2.2.2
    have e2 : hI u a0 2 = (A.2.2.2.1 k).1.2 := hW.2.1.2.2.1
    have vsh := vk.2
    have hp := plF_b (l := (A.2.2.2.1 k).1.1) (t - (A.2.2.2.1 k).1.2) hZ hF vk.1 (hQ k h2 k1)
    unfold hdG at h
    refine run [(4, [])] 60 ?_
    refine z_bq (fun hz => ?_) (fun hz => by omega)
    repeat first
      | refine z_gq (by first | omega | (simp [hI_sI, hI_sF, hI_sR, hI_nw, hI_ff, hI_fl, hI_cp]; try omega)) ?_
      | refine z_iq rfl (by first | omega | (simp [hI_sI, hI_sF, hI_sR, hI_nw, hI_ff, hI_fl, hI_cp]; try omega)) (by first | omega | (simp [hI_sI, hI_sF, hI_sR, hI_nw, hI_ff, hI_fl, hI_cp]; try omega)) ?_
      | refine z_dq (hS.tracks) ?_
      | refine z_dq (hS.track h2 k1) ?_
      | refine z_kq (kB) ?_
    refine z_bq (fun hy => ?_) (fun hy => ?_)
    · repeat first
        | refine z_gq (by first | omega | (simp [hI_sI, hI_sF, hI_sR, hI_nw, hI_ff, hI_fl, hI_cp]; try omega)) ?_
        | refine z_iq rfl (by first | omega | (simp [hI_sI, hI_sF, hI_sR, hI_nw, hI_ff, hI_fl, hI_cp]; try omega)) (by first | omega | (simp [hI_sI, hI_sF, hI_sR, hI_nw, hI_ff, hI_fl, hI_cp]; try omega)) ?_
        | refine z_dq (hS.tracks) ?_
        | refine z_dq (hS.track h2 k1) ?_
        | refine z_kq (kB) ?_
        | refine z_dq (r0) ?_
        | refine z_kq (ka) ?_
      rw [e2]
      refine k_playedOn hA hZ hF tp0 hW.2.1 vk.1 (hQ k h2 k1) (by omega) ?_
      have ba := fb_add h3 (fb_mono hp (by omega)) (by omega)
      refine ⟨fb_vf ba (by omega), ?_⟩
      repeat first
        | refine z_gq (by first | omega | (simp [hI_sI, hI_sF, hI_sR, hI_nw, hI_ff, hI_fl, hI_cp]; try omega)) ?_
        | refine z_iq rfl (by first | omega | (simp [hI_sI, hI_sF, hI_sR, hI_nw, hI_ff, hI_fl, hI_cp]; try omega)) (by first | omega | (simp [hI_sI, hI_sF, hI_sR, hI_nw, hI_ff, hI_fl, hI_cp]; try omega)) ?_
      have ee : FP.fadd v (plF A.1 (A.2.2.2.1 k).1.1 (t - (A.2.2.2.1 k).1.2)) = if (A.2.2.2.1 k).2.2 = 0 ∧ 0 ≤ t - (A.2.2.2.1 k).1.2 ∧ t - (A.2.2.2.1 k).1.2 ≤ 127 then FP.fadd v (plF A.1 (A.2.2.2.1 k).1.1 (t - (A.2.2.2.1 k).1.2)) else v := by
        by_cases hr : 0 ≤ t - (A.2.2.2.1 k).1.2 ∧ t - (A.2.2.2.1 k).1.2 ≤ 127
        · rw [if_pos ⟨by omega, hr⟩]
        · rw [if_neg (fun z => hr z.2), plF_out vk.1 hr]
          exact fadd_0 (fb_fin h3 (by omega)) h4
      rw [← ee] at h
      exact w_heardAt hA hZ hF hV hQ ht n (k + 1) _ _ (by omega) (by omega) (fb_mono ba (by omega)) (fadd_nz (fb_fin h3 (by omega)) (fb_fin hp (by omega)) h4) h
    · rw [if_neg (fun z => hy (e4.trans z.1))] at h
      repeat first
        | refine z_gq (by first | omega | (simp [hI_sI, hI_sF, hI_sR, hI_nw, hI_ff, hI_fl, hI_cp]; try omega)) ?_
        | refine z_iq rfl (by first | omega | (simp [hI_sI, hI_sF, hI_sR, hI_nw, hI_ff, hI_fl, hI_cp]; try omega)) (by first | omega | (simp [hI_sI, hI_sF, hI_sR, hI_nw, hI_ff, hI_fl, hI_cp]; try omega)) ?_
      exact w_heardAt hA hZ hF hV hQ ht n (k + 1) v _ (by omega) (by omega) (fb_mono h3 (by omega)) h4 h
theorem k_heardAt {d : Nat} {t : Int} {u : aS} {Q : aQ} {A : Al} (hA : cA u A) (hZ : vSz A.1) (hF : vSf A.1) (hV : vTN A.2.2.2.1) (hQ : vQN A.1 A.2.2.2.1) (ht : 0 ≤ t ∧ t ≤ 127) (h : Q (some (vF (hdF A.1 A.2.2.2.1 t))) u) : wpm (d + 5) M_X7_heardAt [vR 8, vI t] u Q := by
  refine e_X7_heardAt rfl (run [(4, [])] 60 ?_)
  exact w_heardAt hA hZ hF hV hQ ht 4 0 0 _ (by omega) (by omega) (fb_0 (by omega)) (by decide) h
/-! the model -/
theorem w_spanAt {d : Nat} {Q : aQ} {k x N : Int} {u : aS} (hS : mS u) (hk : 0 ≤ k ∧ k ≤ 3) (hn : hI u 142 (86 * k + 84) = N) (hN : N ≤ 12) {c s : Nat} : ∀ (r : List Sp) (i : Int), (∀ (j : Nat) (p : Sp), r[j]? = some p → Fw (fun q => hI u 142 (86 * k + q)) (i + j) p) → i + r.length = N → 0 ≤ i → (∀ p, p ∈ r → vP p) → Q (some (vI (oR (en i r) x))) u → wp (wpm (d + 1)) cd_X8_spanAt Q 2 [vR 139, vI k, vI x, vI i] [] u c s
  | [], i, hw, h1, h2, hv, h => by
    simp at h1
    refine run [(2, [])] 60 ?_
    refine c_many hS hk ?_
    refine z_bq (fun hz => by omega) (fun hz => ?_)
    exact h
  | p :: r, i, hw, h1, h2, hv, h => by
    have vp := hv p (List.mem_cons_self ..)
    unfold vP at vp
    have eq : qe p = q3 p + q2 p := rfl
    simp at h1
    have f := hw 0 p rfl
    unfold Fw at f
    simp only [← Int.add_assoc] at f
    have f2 : hI u 142 (86 * k + 7 * i + 2) = q2 p := by
      have := f.2.2.1
      simpa using this
    have f3 : hI u 142 (86 * k + 7 * i + 3) = q3 p := by
      have := f.2.2.2.1
      simpa using this
    have h' : Q (some (vI (if q3 p ≤ x ∧ x < qe p then i else oR (en (i + 1) r) x))) u := h
    refine run [(2, [])] 60 ?_
    refine c_many hS hk ?_
    refine z_bq (fun hz => ?_) (fun hz => by omega)
    refine c_of hS hk (by omega) (by omega) ?_
    refine c_of hS hk (by omega) (by omega) ?_
    refine c_of hS hk (by omega) (by omega) ?_
    repeat first
      | refine z_gq (by first | omega | (simp [hI_sI, hI_sF, hI_sR, hI_nw, hI_ff, hI_fl, hI_cp]; try omega)) ?_
      | refine z_iq rfl (by first | omega | (simp [hI_sI, hI_sF, hI_sR, hI_nw, hI_ff, hI_fl, hI_cp]; try omega)) (by first | omega | (simp [hI_sI, hI_sF, hI_sR, hI_nw, hI_ff, hI_fl, hI_cp]; try omega)) ?_
      | refine z_dq (mS.now hS) ?_
      | refine z_dq (mS.floats hS) ?_
      | refine z_dq (mS.sizes hS) ?_
      | refine z_dq (mS.shut hS) ?_
      | refine z_dq (mS.past hS) ?_
      | refine z_dq (mS.deeds hS) ?_
      | refine z_dq (mS.images hS) ?_
      | refine z_dq (mS.imageShut hS) ?_
      | refine z_dq (mS.kept hS) ?_
      | refine z_dq (mS.owner hS) ?_
      | refine z_dq (mS.old hS) ?_
      | refine z_dq (mS.letters hS) ?_
      | refine z_dq (mS.toldSizes hS) ?_
      | refine z_dq (mS.sort hS) ?_
      | refine z_dq (mS.room hS) ?_
      | refine z_dq (mS.things hS) ?_
    refine c_in (fun a0 a1 => ?_) (fun a0 => ?_)
    · rw [if_pos (by omega)] at h'
      exact h'
    · rw [if_neg (by omega)] at h'
      repeat first
        | refine z_gq (by first | omega | (simp [hI_sI, hI_sF, hI_sR, hI_nw, hI_ff, hI_fl, hI_cp]; try omega)) ?_
        | refine z_iq rfl (by first | omega | (simp [hI_sI, hI_sF, hI_sR, hI_nw, hI_ff, hI_fl, hI_cp]; try omega)) (by first | omega | (simp [hI_sI, hI_sF, hI_sR, hI_nw, hI_ff, hI_fl, hI_cp]; try omega)) ?_
        | refine z_dq (mS.now hS) ?_
        | refine z_dq (mS.floats hS) ?_
        | refine z_dq (mS.sizes hS) ?_
        | refine z_dq (mS.shut hS) ?_
        | refine z_dq (mS.past hS) ?_
        | refine z_dq (mS.deeds hS) ?_
        | refine z_dq (mS.images hS) ?_
        | refine z_dq (mS.imageShut hS) ?_
        | refine z_dq (mS.kept hS) ?_
        | refine z_dq (mS.owner hS) ?_
        | refine z_dq (mS.old hS) ?_
        | refine z_dq (mS.letters hS) ?_
        | refine z_dq (mS.toldSizes hS) ?_
        | refine z_dq (mS.sort hS) ?_
        | refine z_dq (mS.room hS) ?_
        | refine z_dq (mS.things hS) ?_
      refine w_spanAt hS hk hn hN r (i + 1) (fun j q hq => ?_) (by omega) (by omega) (fun q hq => hv q (List.mem_cons_of_mem _ hq)) h'
      have := hw (j + 1) q (by simpa using hq)
      have e : i + ((j + 1 : Nat) : Int) = i + 1 + (j : Int) := by omega
      rw [e] at this
      exact this
theorem c_spanAt {d : Nat} {k x : Int} {K : Tk} {u : aS} {Q : aQ} (hS : mS u) (hk : 0 ≤ k ∧ k ≤ 3) (hK : mTk u 142 (86 * k) K) (hG : vG K.1) (h : Q (some (vI (oR (en 0 K.1) x))) u) : wpm (d + 2) M_X8_spanAt [vR 139, vI k, vI x] u Q := by
  have v := hG.2.1
  refine e_X8_spanAt rfl (run [(2, [])] 60 ?_)
  refine w_spanAt hS hk hK.1 (by omega) K.1 0 (fun j p hp => ?_) (by omega) (by omega) hG.2.2 h
  rw [Int.zero_add]
  exact mTk_f hK hp
theorem c_playedAt {d : Nat} {k x : Int} {u : aS} {Q : aQ} {A : Al} (hA : mA u A) (hk : 0 ≤ k ∧ k ≤ 3) (hZ : vSz A.1) (hF : vSf A.1) (hG : vG (A.2.2.2.1 k).1.1) (hQ : ∀ p, p ∈ (A.2.2.2.1 k).1.1 → vQ A.1 p) (hx : -1000 ≤ x ∧ x ≤ 1000) (h : Q (some (vF (plF A.1 (A.2.2.2.1 k).1.1 x))) u) : wpm (d + 3) M_X8_playedAt [vR 139, vI k, vI x] u Q := by
  have hS := hA.1
  have hSo := hA.2.1
  have hK := (hA.2.2.2.2.1 k hk.1 hk.2).1
  have z := hZ.1
  unfold plF at h
  refine e_X8_playedAt rfl (run [(53, [])] 80 ?_)
  refine c_spanAt hS hk hK hG ?_
  refine z_bq (fun hn => ?_) (fun hn => ?_)
  · rw [if_pos hn] at h
    exact h
  · rw [if_neg hn] at h
    have ob := own_b (l := (A.2.2.2.1 k).1.1) x
    have l12 := hG.2.1
    have sm := spA_mem (l := (A.2.2.2.1 k).1.1) (i := oR (en 0 (A.2.2.2.1 k).1.1) x) (by omega) (by omega)
    have hin : q3 (spA (A.2.2.2.1 k).1.1 (oR (en 0 (A.2.2.2.1 k).1.1) x)) ≤ x ∧ x < qe (spA (A.2.2.2.1 k).1.1 (oR (en 0 (A.2.2.2.1 k).1.1) x)) := (own_iff hG.1 sm.2 x).mp rfl
    have vp := hG.2.2 _ sm.1
    have vq := hQ _ sm.1
    have sp := mTk_sp hK (show 0 ≤ oR (en 0 (A.2.2.2.1 k).1.1) x by omega) (by omega)
    have hi : 0 ≤ oR (en 0 (A.2.2.2.1 k).1.1) x ∧ oR (en 0 (A.2.2.2.1 k).1.1) x ≤ 11 := by omega
    generalize spA (A.2.2.2.1 k).1.1 (oR (en 0 (A.2.2.2.1 k).1.1) x) = p at *
    generalize oR (en 0 (A.2.2.2.1 k).1.1) x = j at *
    obtain ⟨s0, s1, s2, s3, s4, s5, s6⟩ := sp
    have s0' : hI u 142 (86 * k + 7 * j + 0) = q0 p := by
      rw [Int.add_zero]
      exact s0
    have vp' := vp
    unfold vP at vp'
    unfold vQ at vq
    unfold qe at hin
    have ev := hSo.2.2 (q0 p) (q1 p + (x - q3 p)) (by omega) (by omega) (by omega) (by omega) (by omega)
    have hbv := (hF (q0 p) (q1 p + (x - q3 p)) (by omega) (by omega) (by omega) (by omega)).1
    have hii : 0 ≤ x - q3 p ∧ x - q3 p < q2 p := by omega
    have hE : 134 + 15 * (q0 p).toNat ≤ 220 := by omega
    generalize hv : A.1.2.2 (q0 p) (q1 p + (x - q3 p)) = v at *
    generalize 134 + 15 * (q0 p).toNat = E at *
    have b1 := wg1_b hbv (by omega) vp
    have b2 := wg2_b b1 (by omega) vp hii
    have b3 := wg3_b b2 (by omega) vp hii
    have vg := fb_vf (gq_b vp.2.2.2.1.1 vp.2.2.2.1.2) (by omega)
    have k3 : ∀ f, f = wgh v p (x - q3 p) → wp (wpm (d + 2)) cd_X8_playedAt Q 151 [vR 139, vI k, vI x, vI j, vI (x - q3 p), vF f] [] u 0 0 := by
      intro f hf
      refine run [] 60 ?_
      exact q_fq h hf
    have k2 : ∀ f, f = wg2 (wg1 v p) p (x - q3 p) → wp (wpm (d + 2)) cd_X8_playedAt Q 102 [vR 139, vI k, vI x, vI j, vI (x - q3 p), vF f] [] u 0 0 := by
      intro f hf
      refine run [(151, [])] 80 ?_
      refine c_of hS hk hi (by omega) ?_
      refine c_of hS hk hi (by omega) ?_
      repeat first
        | refine z_gq (by first | omega | (simp [hI_sI, hI_sF, hI_sR, hI_nw, hI_ff, hI_fl, hI_cp]; try omega)) ?_
        | refine z_iq rfl (by first | omega | (simp [hI_sI, hI_sF, hI_sR, hI_nw, hI_ff, hI_fl, hI_cp]; try omega)) (by first | omega | (simp [hI_sI, hI_sF, hI_sR, hI_nw, hI_ff, hI_fl, hI_cp]; try omega)) ?_
        | refine z_dq (mS.now hS) ?_
        | refine z_dq (mS.floats hS) ?_
        | refine z_dq (mS.sizes hS) ?_
        | refine z_dq (mS.shut hS) ?_
        | refine z_dq (mS.past hS) ?_
        | refine z_dq (mS.deeds hS) ?_
        | refine z_dq (mS.images hS) ?_
        | refine z_dq (mS.imageShut hS) ?_
        | refine z_dq (mS.kept hS) ?_
        | refine z_dq (mS.owner hS) ?_
        | refine z_dq (mS.old hS) ?_
        | refine z_dq (mS.letters hS) ?_
        | refine z_dq (mS.toldSizes hS) ?_
        | refine z_dq (mS.sort hS) ?_
        | refine z_dq (mS.room hS) ?_
        | refine z_dq (mS.things hS) ?_
      refine z_bq (fun hz => ?_) (fun hz => ?_)
      · refine k3 f ?_
        unfold wgh wg3
        rw [if_pos (by omega), hf]
      · refine c_of hS hk hi (by omega) ?_
        repeat first
          | refine z_gq (by first | omega | (simp [hI_sI, hI_sF, hI_sR, hI_nw, hI_ff, hI_fl, hI_cp]; try omega)) ?_
          | refine z_iq rfl (by first | omega | (simp [hI_sI, hI_sF, hI_sR, hI_nw, hI_ff, hI_fl, hI_cp]; try omega)) (by first | omega | (simp [hI_sI, hI_sF, hI_sR, hI_nw, hI_ff, hI_fl, hI_cp]; try omega)) ?_
          | refine z_dq (mS.now hS) ?_
          | refine z_dq (mS.floats hS) ?_
          | refine z_dq (mS.sizes hS) ?_
          | refine z_dq (mS.shut hS) ?_
          | refine z_dq (mS.past hS) ?_
          | refine z_dq (mS.deeds hS) ?_
          | refine z_dq (mS.images hS) ?_
          | refine z_dq (mS.imageShut hS) ?_
          | refine z_dq (mS.kept hS) ?_
          | refine z_dq (mS.owner hS) ?_
          | refine z_dq (mS.old hS) ?_
          | refine z_dq (mS.letters hS) ?_
          | refine z_dq (mS.toldSizes hS) ?_
          | refine z_dq (mS.sort hS) ?_
          | refine z_dq (mS.room hS) ?_
          | refine z_dq (mS.things hS) ?_
        refine c_of hS hk hi (by omega) ?_
        repeat first
          | refine z_gq (by first | omega | (simp [hI_sI, hI_sF, hI_sR, hI_nw, hI_ff, hI_fl, hI_cp]; try omega)) ?_
          | refine z_iq rfl (by first | omega | (simp [hI_sI, hI_sF, hI_sR, hI_nw, hI_ff, hI_fl, hI_cp]; try omega)) (by first | omega | (simp [hI_sI, hI_sF, hI_sR, hI_nw, hI_ff, hI_fl, hI_cp]; try omega)) ?_
          | refine z_dq (mS.now hS) ?_
          | refine z_dq (mS.floats hS) ?_
          | refine z_dq (mS.sizes hS) ?_
          | refine z_dq (mS.shut hS) ?_
          | refine z_dq (mS.past hS) ?_
          | refine z_dq (mS.deeds hS) ?_
          | refine z_dq (mS.images hS) ?_
          | refine z_dq (mS.imageShut hS) ?_
          | refine z_dq (mS.kept hS) ?_
          | refine z_dq (mS.owner hS) ?_
          | refine z_dq (mS.old hS) ?_
          | refine z_dq (mS.letters hS) ?_
          | refine z_dq (mS.toldSizes hS) ?_
          | refine z_dq (mS.sort hS) ?_
          | refine z_dq (mS.room hS) ?_
          | refine z_dq (mS.things hS) ?_
        rw [s2, s6]
        have vq := fb_vf (qt_b (a := q2 p - (x - q3 p)) (b := q6 p + 1) (by omega) (by omega) (by omega) (by omega)) (by omega)
        refine ⟨vq, ?_⟩
        have ex : FP.fmul f (qt (q2 p - (x - q3 p)) (q6 p + 1)) = wgh v p (x - q3 p) := by
          unfold wgh wg3
          rw [if_neg (by omega), hf]
        refine ⟨?_, ?_⟩
        · have := fb_vf b3 (by omega)
          unfold wg3 at this
          rw [if_neg (by omega), ← hf] at this
          exact this
        · exact k3 _ ex
    have k1 : wp (wpm (d + 2)) cd_X8_playedAt Q 53 [vR 139, vI k, vI x, vI j, vI (x - q3 p), vF v] [] u 0 0 := by
      refine run [(102, [])] 80 ?_
      refine c_of hS hk hi (by omega) ?_
      rw [s4]
      refine ⟨vg, ?_⟩
      refine ⟨fb_vf b1 (by omega), ?_⟩
      refine c_of hS hk hi (by omega) ?_
      refine z_bq (fun hz => ?_) (fun hz => ?_)
      · repeat first
          | refine z_gq (by first | omega | (simp [hI_sI, hI_sF, hI_sR, hI_nw, hI_ff, hI_fl, hI_cp]; try omega)) ?_
          | refine z_iq rfl (by first | omega | (simp [hI_sI, hI_sF, hI_sR, hI_nw, hI_ff, hI_fl, hI_cp]; try omega)) (by first | omega | (simp [hI_sI, hI_sF, hI_sR, hI_nw, hI_ff, hI_fl, hI_cp]; try omega)) ?_
          | refine z_dq (mS.now hS) ?_
          | refine z_dq (mS.floats hS) ?_
          | refine z_dq (mS.sizes hS) ?_
          | refine z_dq (mS.shut hS) ?_
          | refine z_dq (mS.past hS) ?_
          | refine z_dq (mS.deeds hS) ?_
          | refine z_dq (mS.images hS) ?_
          | refine z_dq (mS.imageShut hS) ?_
          | refine z_dq (mS.kept hS) ?_
          | refine z_dq (mS.owner hS) ?_
          | refine z_dq (mS.old hS) ?_
          | refine z_dq (mS.letters hS) ?_
          | refine z_dq (mS.toldSizes hS) ?_
          | refine z_dq (mS.sort hS) ?_
          | refine z_dq (mS.room hS) ?_
          | refine z_dq (mS.things hS) ?_
        refine c_of hS hk hi (by omega) ?_
        repeat first
          | refine z_gq (by first | omega | (simp [hI_sI, hI_sF, hI_sR, hI_nw, hI_ff, hI_fl, hI_cp]; try omega)) ?_
          | refine z_iq rfl (by first | omega | (simp [hI_sI, hI_sF, hI_sR, hI_nw, hI_ff, hI_fl, hI_cp]; try omega)) (by first | omega | (simp [hI_sI, hI_sF, hI_sR, hI_nw, hI_ff, hI_fl, hI_cp]; try omega)) ?_
          | refine z_dq (mS.now hS) ?_
          | refine z_dq (mS.floats hS) ?_
          | refine z_dq (mS.sizes hS) ?_
          | refine z_dq (mS.shut hS) ?_
          | refine z_dq (mS.past hS) ?_
          | refine z_dq (mS.deeds hS) ?_
          | refine z_dq (mS.images hS) ?_
          | refine z_dq (mS.imageShut hS) ?_
          | refine z_dq (mS.kept hS) ?_
          | refine z_dq (mS.owner hS) ?_
          | refine z_dq (mS.old hS) ?_
          | refine z_dq (mS.letters hS) ?_
          | refine z_dq (mS.toldSizes hS) ?_
          | refine z_dq (mS.sort hS) ?_
          | refine z_dq (mS.room hS) ?_
          | refine z_dq (mS.things hS) ?_
        rw [s5]
        have vq := fb_vf (qt_b (a := x - q3 p + 1) (b := q5 p + 1) (by omega) (by omega) (by omega) (by omega)) (by omega)
        refine ⟨vq, ?_⟩
        have ex : FP.fmul (wg1 v p) (qt (x - q3 p + 1) (q5 p + 1)) = wg2 (wg1 v p) p (x - q3 p) := by
          unfold wg2
          rw [if_pos (by omega)]
        refine ⟨?_, ?_⟩
        · have := fb_vf b2 (by omega)
          rw [← ex] at this
          exact this
        · exact k2 _ ex
      · refine k2 _ ?_
        unfold wg2
        rw [if_neg (by omega)]
        rfl
    refine c_of hS hk hi (by omega) ?_
    repeat first
      | refine z_gq (by first | omega | (simp [hI_sI, hI_sF, hI_sR, hI_nw, hI_ff, hI_fl, hI_cp]; try omega)) ?_
      | refine z_iq rfl (by first | omega | (simp [hI_sI, hI_sF, hI_sR, hI_nw, hI_ff, hI_fl, hI_cp]; try omega)) (by first | omega | (simp [hI_sI, hI_sF, hI_sR, hI_nw, hI_ff, hI_fl, hI_cp]; try omega)) ?_
      | refine z_dq (mS.floats hS) ?_
    refine c_of hS hk hi (by omega) ?_
    repeat first
      | refine z_gq (by first | omega | (simp [hI_sI, hI_sF, hI_sR, hI_nw, hI_ff, hI_fl, hI_cp]; try omega)) ?_
      | refine z_iq rfl (by first | omega | (simp [hI_sI, hI_sF, hI_sR, hI_nw, hI_ff, hI_fl, hI_cp]; try omega)) (by first | omega | (simp [hI_sI, hI_sF, hI_sR, hI_nw, hI_ff, hI_fl, hI_cp]; try omega)) ?_
      | refine z_dq (mS.floats hS) ?_
    refine c_of hS hk hi (by omega) ?_
    repeat first
      | refine z_gq (by first | omega | (simp [hI_sI, hI_sF, hI_sR, hI_nw, hI_ff, hI_fl, hI_cp]; try omega)) ?_
      | refine z_iq rfl (by first | omega | (simp [hI_sI, hI_sF, hI_sR, hI_nw, hI_ff, hI_fl, hI_cp]; try omega)) (by first | omega | (simp [hI_sI, hI_sF, hI_sR, hI_nw, hI_ff, hI_fl, hI_cp]; try omega)) ?_
      | refine z_dq (mS.floats hS) ?_
    rw [s0', s1, s3, Int.add_assoc, ev]
    exact k1
theorem w_mheardAt {d : Nat} {t : Int} {u : aS} {Q : aQ} {A : Al} (hA : mA u A) (hZ : vSz A.1) (hF : vSf A.1) (hV : vTN A.2.2.2.1) (hQ : vQN A.1 A.2.2.2.1) (ht : 0 ≤ t ∧ t ≤ 127) {c s : Nat} : ∀ (n : Nat) (k : Int) (v : UInt32) (w : aV), k + n = 4 → 0 ≤ k → fb (126 + 15 * A.1.1.toNat + 2 * k.toNat) v → ¬ v = 2147483648 → Q (some (vF (hdG A.1 A.2.2.2.1 t n k v))) u → wp (wpm (d + 3)) cd_X8_heardAt Q 4 [vR 139, vI t, vF v, vI k, w] [] u c s
  | 0, k, v, w, h1, h2, h3, h4, h => by
    refine run [(4, [])] 60 ?_
    refine z_bq (fun hz => by omega) (fun hz => ?_)
    exact h
  | n + 1, k, v, w, h1, h2, h3, h4, h => by
    have hS := hA.1
    have k1 : k ≤ 3 := by omega
    have z := hZ.1
    obtain ⟨c1, c2, c3, c4⟩ := hA.2.2.2.2.1 k h2 k1
    have e2 : hI u 142 (86 * k + 85) = (A.2.2.2.1 k).1.2 := c1.2.1
    obtain ⟨vk, vs⟩ := hV k h2 k1
    have vsh := vk.2
    have hp := plF_b (l := (A.2.2.2.1 k).1.1) (t - (A.2.2.2.1 k).1.2) hZ hF vk.1 (hQ k h2 k1)
    unfold hdG at h
    refine run [(4, [])] 60 ?_
    refine z_bq (fun hz => ?_) (fun hz => by omega)
    repeat first
      | refine z_gq (by first | omega | (simp [hI_sI, hI_sF, hI_sR, hI_nw, hI_ff, hI_fl, hI_cp]; try omega)) ?_
      | refine z_iq rfl (by first | omega | (simp [hI_sI, hI_sF, hI_sR, hI_nw, hI_ff, hI_fl, hI_cp]; try omega)) (by first | omega | (simp [hI_sI, hI_sF, hI_sR, hI_nw, hI_ff, hI_fl, hI_cp]; try omega)) ?_
      | refine z_dq (mS.now hS) ?_
      | refine z_dq (mS.shut hS) ?_
    rw [e2]
    refine z_bq (fun hy => ?_) (fun hy => ?_)
    · refine c_in (fun x0 x1 => ?_) (fun x0 => ?_)
      · rw [if_pos ⟨by omega, x0, x1⟩] at h
        refine c_playedAt hA ⟨h2, k1⟩ hZ hF vk.1 (hQ k h2 k1) (by omega) ?_
        have ba := fb_add h3 (fb_mono hp (by omega)) (by omega)
        refine ⟨fb_vf ba (by omega), ?_⟩
        repeat first
          | refine z_gq (by first | omega | (simp [hI_sI, hI_sF, hI_sR, hI_nw, hI_ff, hI_fl, hI_cp]; try omega)) ?_
          | refine z_iq rfl (by first | omega | (simp [hI_sI, hI_sF, hI_sR, hI_nw, hI_ff, hI_fl, hI_cp]; try omega)) (by first | omega | (simp [hI_sI, hI_sF, hI_sR, hI_nw, hI_ff, hI_fl, hI_cp]; try omega)) ?_
          | refine z_dq (mS.now hS) ?_
          | refine z_dq (mS.floats hS) ?_
          | refine z_dq (mS.sizes hS) ?_
          | refine z_dq (mS.shut hS) ?_
          | refine z_dq (mS.past hS) ?_
          | refine z_dq (mS.deeds hS) ?_
          | refine z_dq (mS.images hS) ?_
          | refine z_dq (mS.imageShut hS) ?_
          | refine z_dq (mS.kept hS) ?_
          | refine z_dq (mS.owner hS) ?_
          | refine z_dq (mS.old hS) ?_
          | refine z_dq (mS.letters hS) ?_
          | refine z_dq (mS.toldSizes hS) ?_
          | refine z_dq (mS.sort hS) ?_
          | refine z_dq (mS.room hS) ?_
          | refine z_dq (mS.things hS) ?_
        exact w_mheardAt hA hZ hF hV hQ ht n (k + 1) _ _ (by omega) (by omega) (fb_mono ba (by omega)) (fadd_nz (fb_fin h3 (by omega)) (fb_fin hp (by omega)) h4) h
      · rw [if_neg (fun z => x0 z.2)] at h
        repeat first
          | refine z_gq (by first | omega | (simp [hI_sI, hI_sF, hI_sR, hI_nw, hI_ff, hI_fl, hI_cp]; try omega)) ?_
          | refine z_iq rfl (by first | omega | (simp [hI_sI, hI_sF, hI_sR, hI_nw, hI_ff, hI_fl, hI_cp]; try omega)) (by first | omega | (simp [hI_sI, hI_sF, hI_sR, hI_nw, hI_ff, hI_fl, hI_cp]; try omega)) ?_
          | refine z_dq (mS.now hS) ?_
          | refine z_dq (mS.floats hS) ?_
          | refine z_dq (mS.sizes hS) ?_
          | refine z_dq (mS.shut hS) ?_
          | refine z_dq (mS.past hS) ?_
          | refine z_dq (mS.deeds hS) ?_
          | refine z_dq (mS.images hS) ?_
          | refine z_dq (mS.imageShut hS) ?_
          | refine z_dq (mS.kept hS) ?_
          | refine z_dq (mS.owner hS) ?_
          | refine z_dq (mS.old hS) ?_
          | refine z_dq (mS.letters hS) ?_
          | refine z_dq (mS.toldSizes hS) ?_
          | refine z_dq (mS.sort hS) ?_
          | refine z_dq (mS.room hS) ?_
          | refine z_dq (mS.things hS) ?_
        exact w_mheardAt hA hZ hF hV hQ ht n (k + 1) v _ (by omega) (by omega) (fb_mono h3 (by omega)) h4 h
    · rw [if_neg (by omega)] at h
      repeat first
        | refine z_gq (by first | omega | (simp [hI_sI, hI_sF, hI_sR, hI_nw, hI_ff, hI_fl, hI_cp]; try omega)) ?_
        | refine z_iq rfl (by first | omega | (simp [hI_sI, hI_sF, hI_sR, hI_nw, hI_ff, hI_fl, hI_cp]; try omega)) (by first | omega | (simp [hI_sI, hI_sF, hI_sR, hI_nw, hI_ff, hI_fl, hI_cp]; try omega)) ?_
        | refine z_dq (mS.now hS) ?_
        | refine z_dq (mS.floats hS) ?_
        | refine z_dq (mS.sizes hS) ?_
        | refine z_dq (mS.shut hS) ?_
        | refine z_dq (mS.past hS) ?_
        | refine z_dq (mS.deeds hS) ?_
        | refine z_dq (mS.images hS) ?_
        | refine z_dq (mS.imageShut hS) ?_
        | refine z_dq (mS.kept hS) ?_
        | refine z_dq (mS.owner hS) ?_
        | refine z_dq (mS.old hS) ?_
        | refine z_dq (mS.letters hS) ?_
        | refine z_dq (mS.toldSizes hS) ?_
        | refine z_dq (mS.sort hS) ?_
        | refine z_dq (mS.room hS) ?_
        | refine z_dq (mS.things hS) ?_
      exact w_mheardAt hA hZ hF hV hQ ht n (k + 1) v _ (by omega) (by omega) (fb_mono h3 (by omega)) h4 h
theorem c_heardAt {d : Nat} {t : Int} {u : aS} {Q : aQ} {A : Al} (hA : mA u A) (hZ : vSz A.1) (hF : vSf A.1) (hV : vTN A.2.2.2.1) (hQ : vQN A.1 A.2.2.2.1) (ht : 0 ≤ t ∧ t ≤ 127) (h : Q (some (vF (hdF A.1 A.2.2.2.1 t))) u) : wpm (d + 4) M_X8_heardAt [vR 139, vI t] u Q := by
  refine e_X8_heardAt rfl (run [(4, [])] 60 ?_)
  exact w_mheardAt hA hZ hF hV hQ ht 4 0 0 _ (by omega) (by omega) (fb_0 (by omega)) (by decide) h
