/-! bounce -/
def cSq (u : aS) (K : So) : Prop := (K.1 ≤ hI u 9 2 ∧ hI u 9 2 ≤ 6) ∧ (∀ s, 0 ≤ s → s < 6 → 0 ≤ hI u 17 s ∧ hI u 17 s ≤ 64) ∧ (∀ s, 0 ≤ s → s < K.1 → hI u 17 s = K.2.1 s) ∧ ∀ s i, 0 ≤ s → s < K.1 → 0 ≤ i → i < K.2.1 s → hF u (11 + s.toNat) i = K.2.2 s i
def cH (u : aS) (A : Al) : Prop := cS u ∧ cSq u A.1 ∧ cTr u A.2.2.2.1
theorem h_playedOn {d : Nat} {t : Nat} {K : Tk} {x : Int} {u : aS} {Q : aQ} {A : Al} (hA : cH u A) (hZ : vSz A.1) (hF : vSf A.1) (ht : isTp t) (hK : cTk u t K) (hG : vG K.1) (hQ : ∀ p, p ∈ K.1 → vQ A.1 p) (hx : -1000 ≤ x ∧ x ≤ 1000) (h : Q (some (vF (plF A.1 K.1 x))) u) : wpm (d + 4) M_X7_playedOn [vR 8, vR t, vI x] u Q := by
  have hS := hA.1
  have hSo := hA.2.1
  have kt := ht.1
  have kt1 := ht.2.1
  have z := hZ.1
  unfold plF at h
  refine e_X7_playedOn rfl (run [] 80 ?_)
  repeat first
    | refine z_gq (by first | omega | (simp [hI_sI, hI_sF, hI_sR, hI_nw, hI_ff, hI_fl, hI_cp]; try omega)) ?_
    | refine z_iq rfl (by first | omega | (simp [hI_sI, hI_sF, hI_sR, hI_nw, hI_ff, hI_fl, hI_cp]; try omega)) (by first | omega | (simp [hI_sI, hI_sF, hI_sR, hI_nw, hI_ff, hI_fl, hI_cp]; try omega)) ?_
    | refine z_kq (kt) ?_
  refine k_indexAt ht hK hG.2.1 hG.2.2 ?_
  refine z_bq (fun hn => ?_) (fun hn => ?_)
  · rw [if_pos hn] at h
    exact h
  · rw [if_neg hn] at h
    have ob := own_b (l := K.1) x
    have sm := spA_mem (l := K.1) (i := oR (en 0 K.1) x) (by omega) (by omega)
    have hin : q3 (spA K.1 (oR (en 0 K.1) x)) ≤ x ∧ x < qe (spA K.1 (oR (en 0 K.1) x)) := (own_iff hG.1 sm.2 x).mp rfl
    have vp := hG.2.2 _ sm.1
    have vq := hQ _ sm.1
    obtain ⟨y, y1, y2⟩ := cTk_get hK (show 0 ≤ oR (en 0 K.1) x by omega) (spA_get (by omega) (by omega))
    have ky := kd_s1 y2.1.1
    have l12 := hG.2.1
    have z1 := hK.1.1
    repeat first
      | refine z_gq (by first | omega | (simp [hI_sI, hI_sF, hI_sR, hI_nw, hI_ff, hI_fl, hI_cp]; try omega)) ?_
      | refine z_iq rfl (by first | omega | (simp [hI_sI, hI_sF, hI_sR, hI_nw, hI_ff, hI_fl, hI_cp]; try omega)) (by first | omega | (simp [hI_sI, hI_sF, hI_sR, hI_nw, hI_ff, hI_fl, hI_cp]; try omega)) ?_
      | refine z_kq (kt) ?_
      | refine z_dq (z1) ?_
      | refine z_iq (kt1) (by first | omega | (simp [hI_sI, hI_sF, hI_sR, hI_nw, hI_ff, hI_fl, hI_cp]; try omega)) (by first | omega | (simp [hI_sI, hI_sF, hI_sR, hI_nw, hI_ff, hI_fl, hI_cp]; try omega)) ?_
      | refine z_dq (y1) ?_
      | refine z_kq (ky) ?_
    generalize spA K.1 (oR (en 0 K.1) x) = p at *
    have vp' := vp
    unfold vP at vp'
    unfold vQ at vq
    unfold qe at hin
    have e0 : hI u y 0 = q0 p := y2.2.1
    have e1 : hI u y 1 = q1 p := y2.2.2.1
    have e3 : hI u y 3 = q3 p := y2.2.2.2.2.1
    have sc := hSo.1
    have sl := hSo.2.1
    have el := hSo.2.2.1 (q0 p) (by omega) (by omega)
    have ev := hSo.2.2.2 (q0 p) (q1 p + (x - q3 p)) (by omega) (by omega) (by omega) (by omega)
    repeat first
      | refine z_gq (by first | omega | (simp [hI_sI, hI_sF, hI_sR, hI_nw, hI_ff, hI_fl, hI_cp]; try omega)) ?_
      | refine z_iq rfl (by first | omega | (simp [hI_sI, hI_sF, hI_sR, hI_nw, hI_ff, hI_fl, hI_cp]; try omega)) (by first | omega | (simp [hI_sI, hI_sF, hI_sR, hI_nw, hI_ff, hI_fl, hI_cp]; try omega)) ?_
      | refine z_kq (ky) ?_
      | refine z_dq (hS.sounds) ?_
    rw [e0, e1, e3]
    refine k_floatAt hS ⟨by omega, sc.2⟩ sl (by omega) (by omega) ?_
    rw [ev]
    repeat first
      | refine z_gq (by first | omega | (simp [hI_sI, hI_sF, hI_sR, hI_nw, hI_ff, hI_fl, hI_cp]; try omega)) ?_
      | refine z_iq rfl (by first | omega | (simp [hI_sI, hI_sF, hI_sR, hI_nw, hI_ff, hI_fl, hI_cp]; try omega)) (by first | omega | (simp [hI_sI, hI_sF, hI_sR, hI_nw, hI_ff, hI_fl, hI_cp]; try omega)) ?_
      | refine z_kq (ky) ?_
    refine k_weigh y2 vp (by omega) (hF (q0 p) (q1 p + (x - q3 p)) (by omega) (by omega) (by omega) (by omega)).1 (by omega) ?_
    exact h
theorem v_heardAt {d : Nat} {t : Int} {u : aS} {Q : aQ} {A : Al} (hA : cH u A) (hZ : vSz A.1) (hF : vSf A.1) (hV : vTN A.2.2.2.1) (hQ : vQN A.1 A.2.2.2.1) (ht : 0 ≤ t ∧ t ≤ 127) {c s : Nat} : ∀ (n : Nat) (k : Int) (v : UInt32) (w : aV), k + n = 4 → 0 ≤ k → fb (126 + 15 * A.1.1.toNat + 2 * k.toNat) v → ¬ v = 2147483648 → Q (some (vF (hdG A.1 A.2.2.2.1 t n k v))) u → wp (wpm (d + 4)) cd_X7_heardAt Q 4 [vR 8, vI t, vF v, vI k, w] [] u c s
  | 0, k, v, w, h1, h2, h3, h4, h => by
    refine run [(4, [])] 60 ?_
    refine z_bq (fun hz => by omega) (fun hz => ?_)
    exact h
  | n + 1, k, v, w, h1, h2, h3, h4, h => by
    have hS := hA.1
    have k1 : k ≤ 3 := by omega
    have z := hZ.1
    obtain ⟨a0, a1, p0, p1, p2, p3, hW⟩ := hA.2.2 k h2 k1
    have hB := isB_k h2 k1
    have kB := hB.k0
    have tp0 := hB.tp hW.1.2.2.2.1.1
    have ka := tp0.1
    have r0 := hW.1.1.1
    obtain ⟨vk, vs⟩ := hV k h2 k1
    have e4 : hI u (50 + 20 * k.toNat) 4 = (A.2.2.2.1 k).2.2 := hW.2.2.2.2
    have e2 : hI u a0 2 = (A.2.2.2.1 k).1.2 := hW.2.1.2.2.1
    have vsh := vk.2
    have hp := plF_b (l := (A.2.2.2.1 k).1.1) (t - (A.2.2.2.1 k).1.2) hZ hF vk.1 (hQ k h2 k1)
    unfold hdG at h
    refine run [(4, [])] 60 ?_
    refine z_bq (fun hz => ?_) (fun hz => by omega)
    repeat first
      | refine z_gq (by first | omega | (simp [hI_sI, hI_sF, hI_sR, hI_nw, hI_ff, hI_fl, hI_cp]; try omega)) ?_
      | refine z_iq rfl (by first | omega | (simp [hI_sI, hI_sF, hI_sR, hI_nw, hI_ff, hI_fl, hI_cp]; try omega)) (by first | omega | (simp [hI_sI, hI_sF, hI_sR, hI_nw, hI_ff, hI_fl, hI_cp]; try omega)) ?_
      | refine z_dq (hS.tracks) ?_
      | refine z_dq (hS.track h2 k1) ?_
      | refine z_kq (kB) ?_
    refine z_bq (fun hy => ?_) (fun hy => ?_)
    · repeat first
        | refine z_gq (by first | omega | (simp [hI_sI, hI_sF, hI_sR, hI_nw, hI_ff, hI_fl, hI_cp]; try omega)) ?_
        | refine z_iq rfl (by first | omega | (simp [hI_sI, hI_sF, hI_sR, hI_nw, hI_ff, hI_fl, hI_cp]; try omega)) (by first | omega | (simp [hI_sI, hI_sF, hI_sR, hI_nw, hI_ff, hI_fl, hI_cp]; try omega)) ?_
        | refine z_dq (hS.tracks) ?_
        | refine z_dq (hS.track h2 k1) ?_
        | refine z_kq (kB) ?_
        | refine z_dq (r0) ?_
        | refine z_kq (ka) ?_
      rw [e2]
      refine h_playedOn hA hZ hF tp0 hW.2.1 vk.1 (hQ k h2 k1) (by omega) ?_
      have ba := fb_add h3 (fb_mono hp (by omega)) (by omega)
      refine ⟨fb_vf ba (by omega), ?_⟩
      repeat first
        | refine z_gq (by first | omega | (simp [hI_sI, hI_sF, hI_sR, hI_nw, hI_ff, hI_fl, hI_cp]; try omega)) ?_
        | refine z_iq rfl (by first | omega | (simp [hI_sI, hI_sF, hI_sR, hI_nw, hI_ff, hI_fl, hI_cp]; try omega)) (by first | omega | (simp [hI_sI, hI_sF, hI_sR, hI_nw, hI_ff, hI_fl, hI_cp]; try omega)) ?_
      have ee : FP.fadd v (plF A.1 (A.2.2.2.1 k).1.1 (t - (A.2.2.2.1 k).1.2)) = if (A.2.2.2.1 k).2.2 = 0 ∧ 0 ≤ t - (A.2.2.2.1 k).1.2 ∧ t - (A.2.2.2.1 k).1.2 ≤ 127 then FP.fadd v (plF A.1 (A.2.2.2.1 k).1.1 (t - (A.2.2.2.1 k).1.2)) else v := by
        by_cases hr : 0 ≤ t - (A.2.2.2.1 k).1.2 ∧ t - (A.2.2.2.1 k).1.2 ≤ 127
        · rw [if_pos ⟨by omega, hr⟩]
        · rw [if_neg (fun z => hr z.2), plF_out vk.1 hr]
          exact fadd_0 (fb_fin h3 (by omega)) h4
      rw [← ee] at h
      exact v_heardAt hA hZ hF hV hQ ht n (k + 1) _ _ (by omega) (by omega) (fb_mono ba (by omega)) (fadd_nz (fb_fin h3 (by omega)) (fb_fin hp (by omega)) h4) h
    · rw [if_neg (fun z => hy (e4.trans z.1))] at h
      repeat first
        | refine z_gq (by first | omega | (simp [hI_sI, hI_sF, hI_sR, hI_nw, hI_ff, hI_fl, hI_cp]; try omega)) ?_
        | refine z_iq rfl (by first | omega | (simp [hI_sI, hI_sF, hI_sR, hI_nw, hI_ff, hI_fl, hI_cp]; try omega)) (by first | omega | (simp [hI_sI, hI_sF, hI_sR, hI_nw, hI_ff, hI_fl, hI_cp]; try omega)) ?_
      exact v_heardAt hA hZ hF hV hQ ht n (k + 1) v _ (by omega) (by omega) (fb_mono h3 (by omega)) h4 h
theorem h_heardAt {d : Nat} {t : Int} {u : aS} {Q : aQ} {A : Al} (hA : cH u A) (hZ : vSz A.1) (hF : vSf A.1) (hV : vTN A.2.2.2.1) (hQ : vQN A.1 A.2.2.2.1) (ht : 0 ≤ t ∧ t ≤ 127) (h : Q (some (vF (hdF A.1 A.2.2.2.1 t))) u) : wpm (d + 5) M_X7_heardAt [vR 8, vI t] u Q := by
  refine e_X7_heardAt rfl (run [(4, [])] 60 ?_)
  exact v_heardAt hA hZ hF hV hQ ht 4 0 0 _ (by omega) (by omega) (fb_0 (by omega)) (by decide) h
def oBounce (K : So) (T : Tr) (t n : Int) : Int × So := if ¬ ((1 ≤ n ∧ n ≤ 64) ∧ 0 ≤ t ∧ t ≤ 128 - n) then (-2000000002, K) else if K.1 = 6 then (-2000000004, K) else (K.1, addS K n (fun i => hdF K T (t + i)))
theorem w_bounceC {d : Nat} {t n : Int} {Q : aQ} {A : Al} (hZ : vSz A.1) (hF : vSf A.1) (hV : vTN A.2.2.2.1) (hQ : vQN A.1 A.2.2.2.1) (hn : 1 ≤ n ∧ n ≤ 64) (ht : 0 ≤ t ∧ t ≤ 128 - n) {c s : Nat} : ∀ (m : Nat) (i : Int) (u : aS), cH u A → A.1.1 < hI u 9 2 → hI u 17 A.1.1 = n → i + m = n → 0 ≤ i → Q (some (vI A.1.1)) (ff u (11 + A.1.1.toNat) i n (fun i => hdF A.1 A.2.2.2.1 (t + i))) → wp (wpm (d + 5)) cd_X7_bounce Q 38 [vR 8, vI t, vI n, vI A.1.1, vI i] [] u c s
  | 0, i, u, hA, h6, h17, h1, h2, h => by
    refine run [(38, [])] 60 ?_
    refine z_bq (fun hz => by omega) (fun hz => ?_)
    rw [ff_end u _ _ (by omega)] at h
    exact h
  | m + 1, i, u, hA, h6, h17, h1, h2, h => by
    have hS := hA.1
    have z := hZ.1
    have q := hA.2.1.1
    refine run [(38, [])] 60 ?_
    refine z_bq (fun hz => ?_) (fun hz => by omega)
    repeat first
      | refine z_gq (by first | omega | (simp [hI_sI, hI_sF, hI_sR, hI_nw, hI_ff, hI_fl, hI_cp]; try omega)) ?_
      | refine z_iq rfl (by first | omega | (simp [hI_sI, hI_sF, hI_sR, hI_nw, hI_ff, hI_fl, hI_cp]; try omega)) (by first | omega | (simp [hI_sI, hI_sF, hI_sR, hI_nw, hI_ff, hI_fl, hI_cp]; try omega)) ?_
      | refine z_dq (hS.sounds) ?_
    refine h_heardAt hA hZ hF hV hQ (by omega) ?_
    repeat first
      | refine z_gq (by first | omega | (simp [hI_sI, hI_sF, hI_sR, hI_nw, hI_ff, hI_fl, hI_cp]; try omega)) ?_
      | refine z_iq rfl (by first | omega | (simp [hI_sI, hI_sF, hI_sR, hI_nw, hI_ff, hI_fl, hI_cp]; try omega)) (by first | omega | (simp [hI_sI, hI_sF, hI_sR, hI_nw, hI_ff, hI_fl, hI_cp]; try omega)) ?_
    refine k_setFloat hS ⟨by omega, q.2⟩ hA.2.1.2.1 ⟨by omega, h6⟩ (by omega) ?_
    repeat first
      | refine z_gq (by first | omega | (simp [hI_sI, hI_sF, hI_sR, hI_nw, hI_ff, hI_fl, hI_cp]; try omega)) ?_
      | refine z_iq rfl (by first | omega | (simp [hI_sI, hI_sF, hI_sR, hI_nw, hI_ff, hI_fl, hI_cp]; try omega)) (by first | omega | (simp [hI_sI, hI_sF, hI_sR, hI_nw, hI_ff, hI_fl, hI_cp]; try omega)) ?_
    refine w_bounceC hZ hF hV hQ hn ht m (i + 1) _ ⟨hS, ⟨q, hA.2.1.2.1, hA.2.1.2.2.1, fun s j s0 s1 j0 j1 => ?_⟩, cTr_f (p := fun a => 11 ≤ a ∧ a ≤ 17) (fA_sF _ _ _ (by omega)) (fun a => by omega) (fun b => by omega) hA.2.2⟩ h6 h17 (by omega) (by omega) ?_
    · rw [hF_sF, if_neg (by omega)]
      exact hA.2.1.2.2.2 s j s0 s1 j0 j1
    · rw [← ff_step u _ _ (by omega)] at h
      exact h
theorem k_bounce {d : Nat} {t n : Int} {u : aS} {Q : aQ} {A : Al} (hA : cA u A) (hZ : vSz A.1) (hF : vSf A.1) (hV : vTN A.2.2.2.1) (hQ : vQN A.1 A.2.2.2.1) (h : ∀ u', cA u' ((oBounce A.1 A.2.2.2.1 t n).2, A.2) → fA (fun a => a = 9 ∨ (11 ≤ a ∧ a ≤ 17)) u u' → Q (some (vI (oBounce A.1 A.2.2.2.1 t n).1)) u') : wpm (d + 6) M_X7_bounce [vR 8, vI t, vI n] u Q := by
  have hS := hA.1
  have hK := hA.2.2.1
  have e := hK.1
  have v := hZ.1
  unfold oBounce at h
  refine e_X7_bounce rfl (run [(38, [])] 60 ?_)
  refine k_isPlaceFor (fun n0 t0 => ?_) (fun n0 => ?_)
  · rw [if_neg (by omega)] at h
    repeat first
      | refine z_gq (by first | omega | (simp [hI_sI, hI_sF, hI_sR, hI_nw, hI_ff, hI_fl, hI_cp]; try omega)) ?_
      | refine z_iq rfl (by first | omega | (simp [hI_sI, hI_sF, hI_sR, hI_nw, hI_ff, hI_fl, hI_cp]; try omega)) (by first | omega | (simp [hI_sI, hI_sF, hI_sR, hI_nw, hI_ff, hI_fl, hI_cp]; try omega)) ?_
      | refine z_dq (hS.sounds) ?_
    refine z_bq (fun hz => ?_) (fun hz => ?_)
    · rw [if_neg (by omega)] at h
      repeat first
        | refine z_gq (by first | omega | (simp [hI_sI, hI_sF, hI_sR, hI_nw, hI_ff, hI_fl, hI_cp]; try omega)) ?_
        | refine z_iq rfl (by first | omega | (simp [hI_sI, hI_sF, hI_sR, hI_nw, hI_ff, hI_fl, hI_cp]; try omega)) (by first | omega | (simp [hI_sI, hI_sF, hI_sR, hI_nw, hI_ff, hI_fl, hI_cp]; try omega)) ?_
        | refine z_dq (hS.sounds) ?_
      refine k_addRow hS hK hZ n0 (by omega) ?_
      have hf : fA (fun a => a = 9 ∨ (11 ≤ a ∧ a ≤ 17)) u (ff (sI (sI u 17 A.1.1 n) 9 2 (A.1.1 + 1)) (11 + A.1.1.toNat) 0 n (fun i => hdF A.1 A.2.2.2.1 (t + i))) := fA_tr (fA_sI u _ _ (by omega)) (fA_tr (fA_sI _ _ _ (by omega)) (fA_ff _ _ _ _ (by omega)))
      have hcT : cTr (sI (sI u 17 A.1.1 n) 9 2 (A.1.1 + 1)) A.2.2.2.1 := cTr_f (p := fun a => a = 9 ∨ (11 ≤ a ∧ a ≤ 17)) (fA_tr (fA_sI u _ _ (by omega)) (fA_sI _ _ _ (by omega))) (fun a => by omega) (fun b => by omega) hA.2.2.2.2.2.1
      have i92 : hI (sI (sI u 17 A.1.1 n) 9 2 (A.1.1 + 1)) 9 2 = A.1.1 + 1 := by simp [hI_sI]
      have i17 : ∀ s, hI (sI (sI u 17 A.1.1 n) 9 2 (A.1.1 + 1)) 17 s = if s = A.1.1 then n else hI u 17 s := by
        intro s
        simp [hI_sI]
      refine w_bounceC hZ hF hV hQ n0 t0 n.toNat 0 _ ⟨cS_h (fun _ _ _ => rfl) hS, ⟨by rw [i92]; omega, fun s s0 s1 => ?_, fun s s0 s1 => ?_, fun s j s0 s1 j0 j1 => ?_⟩, hcT⟩ (by rw [i92]; omega) (by rw [i17, if_pos rfl]) (by omega) (by omega) (h _ (cA_so hA hf (fun i => rfl) (cSo_add hK v.1 ?_ (fun s => ?_) (fun s i s0 s1 => ?_) (fun i i0 i1 => ?_))) hf)
      · have g := (hZ.2 s s0 s1).1
        rw [← hK.2.1 s s0 s1] at g
        rw [i17]
        split <;> omega
      · rw [i17, if_neg (by omega)]
        exact hK.2.1 s s0 (by omega)
      · exact hK.2.2 s j s0 (by omega) j0 j1 s1
      · simp [hI_ff, hI_sI]
      · simp [hI_ff, hI_sI]
      · rw [hF_ff, if_neg (by omega)]
        rfl
      · show (if 11 + A.1.1.toNat = 11 + A.1.1.toNat ∧ 0 ≤ i ∧ i < n then hdF A.1 A.2.2.2.1 (t + i) else _) = _
        rw [if_pos ⟨rfl, i0, i1⟩]
    · rw [if_pos (by omega)] at h
      exact h u hA (fA_rfl _ u)
  · rw [if_pos (by omega)] at h
    exact h u hA (fA_rfl _ u)
theorem w_bounceM {d : Nat} {t n : Int} {Q : aQ} {A : Al} (hZ : vSz A.1) (hF : vSf A.1) (hV : vTN A.2.2.2.1) (hQ : vQN A.1 A.2.2.2.1) (hn : 1 ≤ n ∧ n ≤ 64) (ht : 0 ≤ t ∧ t + n ≤ 128) (h6 : ¬ A.1.1 = 6) {c s : Nat} : ∀ (m : Nat) (i : Int) (u : aS), mA u A → i + m = n → 0 ≤ i → wp (wpm (d + 4)) cd_X8_bounce Q 82 [vR 139, vI t, vI n, vI n] [] (ff u 140 (64 * A.1.1 + i) (64 * A.1.1 + n) (fun q => hdF A.1 A.2.2.2.1 (t + (q - 64 * A.1.1)))) c s → wp (wpm (d + 4)) cd_X8_bounce Q 50 [vR 139, vI t, vI n, vI i] [] u c s
  | 0, i, u, hA, h1, h2, h => by
    refine run [(50, []), (82, [])] 60 ?_
    refine z_bq (fun hz => by omega) (fun hz => ?_)
    have e : i = n := by omega
    subst e
    rw [ff_end u _ _ (by omega)] at h
    exact h
  | m + 1, i, u, hA, h1, h2, h => by
    have hS := hA.1
    have z := hZ.1
    have e := hA.2.1.1
    refine run [(50, []), (82, [])] 60 ?_
    refine z_bq (fun hz => ?_) (fun hz => by omega)
    repeat first
      | refine z_gq (by first | omega | (simp [hI_sI, hI_sF, hI_sR, hI_nw, hI_ff, hI_fl, hI_cp]; try omega)) ?_
      | refine z_iq rfl (by first | omega | (simp [hI_sI, hI_sF, hI_sR, hI_nw, hI_ff, hI_fl, hI_cp]; try omega)) (by first | omega | (simp [hI_sI, hI_sF, hI_sR, hI_nw, hI_ff, hI_fl, hI_cp]; try omega)) ?_
      | refine z_dq (mS.floats hS) ?_
    refine c_heardAt hA hZ hF hV hQ (by omega) ?_
    repeat first
      | refine z_gq (by first | omega | (simp [hI_sI, hI_sF, hI_sR, hI_nw, hI_ff, hI_fl, hI_cp]; try omega)) ?_
      | refine z_iq rfl (by first | omega | (simp [hI_sI, hI_sF, hI_sR, hI_nw, hI_ff, hI_fl, hI_cp]; try omega)) (by first | omega | (simp [hI_sI, hI_sF, hI_sR, hI_nw, hI_ff, hI_fl, hI_cp]; try omega)) ?_
      | refine z_dq (mS.floats hS) ?_
    rw [e]
    refine w_bounceM hZ hF hV hQ hn ht h6 m (i + 1) _ ⟨hS, ⟨e, hA.2.1.2.1, fun s j s0 s1 j0 j1 j2 => ?_⟩, hA.2.2⟩ (by omega) (by omega) ?_
    · have vs := (hZ.2 s s0 s1).1
      rw [hF_sF, if_neg (by omega)]
      exact hA.2.1.2.2 s j s0 s1 j0 j1 j2
    · rw [← ff_step u _ _ (by omega), show t + (64 * A.1.1 + i - 64 * A.1.1) = t + i by omega] at h
      rw [show 64 * A.1.1 + (i + 1) = 64 * A.1.1 + i + 1 by omega]
      exact h
theorem c_bounce {d : Nat} {t n : Int} {u : aS} {Q : aQ} {A : Al} (hA : mA u A) (hZ : vSz A.1) (hF : vSf A.1) (hV : vTN A.2.2.2.1) (hQ : vQN A.1 A.2.2.2.1) (h : ∀ u', mA u' ((oBounce A.1 A.2.2.2.1 t n).2, A.2) → fM u u' → Q (some (vI (oBounce A.1 A.2.2.2.1 t n).1)) u') : wpm (d + 5) M_X8_bounce [vR 139, vI t, vI n] u Q := by
  have hS := hA.1
  have hK := hA.2.1
  have e := hK.1
  have v := hZ.1
  unfold oBounce at h
  refine e_X8_bounce rfl (run [(50, [])] 60 ?_)
  refine c_in (fun t0 t1 => ?_) (fun t0 => ?_)
  · refine c_in (fun n0 n1 => ?_) (fun n0 => ?_)
    · repeat first
        | refine z_gq (by first | omega | (simp [hI_sI, hI_sF, hI_sR, hI_nw, hI_ff, hI_fl, hI_cp]; try omega)) ?_
        | refine z_iq rfl (by first | omega | (simp [hI_sI, hI_sF, hI_sR, hI_nw, hI_ff, hI_fl, hI_cp]; try omega)) (by first | omega | (simp [hI_sI, hI_sF, hI_sR, hI_nw, hI_ff, hI_fl, hI_cp]; try omega)) ?_
        | refine z_dq (mS.now hS) ?_
        | refine z_dq (mS.floats hS) ?_
        | refine z_dq (mS.sizes hS) ?_
        | refine z_dq (mS.shut hS) ?_
        | refine z_dq (mS.past hS) ?_
        | refine z_dq (mS.deeds hS) ?_
        | refine z_dq (mS.images hS) ?_
        | refine z_dq (mS.imageShut hS) ?_
        | refine z_dq (mS.kept hS) ?_
        | refine z_dq (mS.owner hS) ?_
        | refine z_dq (mS.old hS) ?_
        | refine z_dq (mS.letters hS) ?_
        | refine z_dq (mS.toldSizes hS) ?_
        | refine z_dq (mS.sort hS) ?_
        | refine z_dq (mS.room hS) ?_
        | refine z_dq (mS.things hS) ?_
      refine z_bq (fun hz => ?_) (fun hz => ?_)
      · rw [if_pos (by omega)] at h
        exact h u hA (fM_rfl u)
      · rw [if_neg (by omega)] at h
        repeat first
          | refine z_gq (by first | omega | (simp [hI_sI, hI_sF, hI_sR, hI_nw, hI_ff, hI_fl, hI_cp]; try omega)) ?_
          | refine z_iq rfl (by first | omega | (simp [hI_sI, hI_sF, hI_sR, hI_nw, hI_ff, hI_fl, hI_cp]; try omega)) (by first | omega | (simp [hI_sI, hI_sF, hI_sR, hI_nw, hI_ff, hI_fl, hI_cp]; try omega)) ?_
          | refine z_dq (mS.now hS) ?_
          | refine z_dq (mS.floats hS) ?_
          | refine z_dq (mS.sizes hS) ?_
          | refine z_dq (mS.shut hS) ?_
          | refine z_dq (mS.past hS) ?_
          | refine z_dq (mS.deeds hS) ?_
          | refine z_dq (mS.images hS) ?_
          | refine z_dq (mS.imageShut hS) ?_
          | refine z_dq (mS.kept hS) ?_
          | refine z_dq (mS.owner hS) ?_
          | refine z_dq (mS.old hS) ?_
          | refine z_dq (mS.letters hS) ?_
          | refine z_dq (mS.toldSizes hS) ?_
          | refine z_dq (mS.sort hS) ?_
          | refine z_dq (mS.room hS) ?_
          | refine z_dq (mS.things hS) ?_
        refine z_bq (fun hy => ?_) (fun hy => ?_)
        · rw [if_pos (by omega)] at h
          exact h u hA (fM_rfl u)
        · rw [if_neg (by omega)] at h
          refine w_bounceM hZ hF hV hQ ⟨n0, n1⟩ (by omega) (by omega) n.toNat 0 u hA (by omega) (by omega) ?_
          refine run [] 60 ?_
          repeat first
            | refine z_gq (by first | omega | (simp [hI_sI, hI_sF, hI_sR, hI_nw, hI_ff, hI_fl, hI_cp]; try omega)) ?_
            | refine z_iq rfl (by first | omega | (simp [hI_sI, hI_sF, hI_sR, hI_nw, hI_ff, hI_fl, hI_cp]; try omega)) (by first | omega | (simp [hI_sI, hI_sF, hI_sR, hI_nw, hI_ff, hI_fl, hI_cp]; try omega)) ?_
            | refine z_dq (mS.sizes hS) ?_
          have e3 : hI (sI (sI (ff u 140 (64 * A.1.1 + 0) (64 * A.1.1 + n) (fun q => hdF A.1 A.2.2.2.1 (t + (q - 64 * A.1.1)))) 141 (hI (ff u 140 (64 * A.1.1 + 0) (64 * A.1.1 + n) (fun q => hdF A.1 A.2.2.2.1 (t + (q - 64 * A.1.1)))) 139 2) n) 139 2 (hI (sI (ff u 140 (64 * A.1.1 + 0) (64 * A.1.1 + n) (fun q => hdF A.1 A.2.2.2.1 (t + (q - 64 * A.1.1)))) 141 (hI (ff u 140 (64 * A.1.1 + 0) (64 * A.1.1 + n) (fun q => hdF A.1 A.2.2.2.1 (t + (q - 64 * A.1.1)))) 139 2) n) 139 2 + 1)) 139 2 = A.1.1 + 1 := by
            simp [hI_sI, hI_ff]
            omega
          repeat first
            | refine z_gq (by first | omega | (simp [hI_sI, hI_sF, hI_sR, hI_nw, hI_ff, hI_fl, hI_cp]; try omega)) ?_
            | refine z_iq rfl (by first | omega | (simp [hI_sI, hI_sF, hI_sR, hI_nw, hI_ff, hI_fl, hI_cp]; try omega)) (by first | omega | (simp [hI_sI, hI_sF, hI_sR, hI_nw, hI_ff, hI_fl, hI_cp]; try omega)) ?_
            | refine z_dq (mS.now hS) ?_
            | refine z_dq (mS.floats hS) ?_
            | refine z_dq (mS.sizes hS) ?_
            | refine z_dq (mS.shut hS) ?_
            | refine z_dq (mS.past hS) ?_
            | refine z_dq (mS.deeds hS) ?_
            | refine z_dq (mS.images hS) ?_
            | refine z_dq (mS.imageShut hS) ?_
            | refine z_dq (mS.kept hS) ?_
            | refine z_dq (mS.owner hS) ?_
            | refine z_dq (mS.old hS) ?_
            | refine z_dq (mS.letters hS) ?_
            | refine z_dq (mS.toldSizes hS) ?_
            | refine z_dq (mS.sort hS) ?_
            | refine z_dq (mS.room hS) ?_
            | refine z_dq (mS.things hS) ?_
          rw [e3]
          refine q_eq (h _ ⟨hS, ?_, hA.2.2⟩ ?_) (by omega)
          · refine mSo_add hK v.1 e3 (fun s => ?_) (fun s i s0 s1 i0 i1 => ?_) (fun i i0 i1 => ?_) (fun s s0 s1 => (hZ.2 s s0 (by omega)).1.2)
            · simp [hI_sI, hI_ff, e]
            · rw [hF_sI, hF_sI, hF_ff, if_neg (by omega)]
            · show (if 140 = 140 ∧ 64 * A.1.1 + 0 ≤ 64 * A.1.1 + i ∧ 64 * A.1.1 + i < 64 * A.1.1 + n then hdF A.1 A.2.2.2.1 (t + (64 * A.1.1 + i - 64 * A.1.1)) else _) = _
              rw [if_pos (by omega), show 64 * A.1.1 + i - 64 * A.1.1 = i by omega]
          · exact fM_tr (fM_ff u _ _ _ (by omega)) (fM_tr (fM_sI _ _ _ (by omega)) (fM_sI _ _ _ (by omega)))
    · rw [if_pos (by omega)] at h
      exact h u hA (fM_rfl u)
  · rw [if_pos (by omega)] at h
    exact h u hA (fM_rfl u)
