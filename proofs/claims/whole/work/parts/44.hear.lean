/-! what is played, what is heard -/
def wg1 (v : UInt32) (p : Sp) : UInt32 := FP.fmul v (gq (q4 p))
def wg2 (v : UInt32) (p : Sp) (i : Int) : UInt32 := if i < q5 p then FP.fmul v (qt (i + 1) (q5 p + 1)) else v
def wg3 (v : UInt32) (p : Sp) (i : Int) : UInt32 := if i < q2 p - q6 p then v else FP.fmul v (qt (q2 p - i) (q6 p + 1))
def wgh (v : UInt32) (p : Sp) (i : Int) : UInt32 := wg3 (wg2 (wg1 v p) p i) p i
def plF (K : So) (l : List Sp) (x : Int) : UInt32 := if oR (en 0 l) x = -1 then 0 else wgh (K.2.2 (q0 (spA l (oR (en 0 l) x))) (q1 (spA l (oR (en 0 l) x)) + (x - q3 (spA l (oR (en 0 l) x))))) (spA l (oR (en 0 l) x)) (x - q3 (spA l (oR (en 0 l) x)))
theorem fb_pos {E : Nat} {x : UInt32} (h : fb E x) : 1 ≤ E := by
  unfold fb at h
  rcases Nat.eq_zero_or_pos E with z | z
  · rw [z, Nat.zero_mul] at h
    exact absurd h (Nat.not_lt_zero _)
  · exact z
theorem wg1_b {E : Nat} {v : UInt32} {p : Sp} (h : fb E v) (hE : E ≤ 240) (hv : vP p) : fb (E + 3) (wg1 v p) := by
  have g := hv.2.2.2.1
  exact fb_mono (fb_mul h (gq_b g.1 g.2) (by omega) (by omega) (by omega)) (by omega)
theorem wg2_b {E : Nat} {v : UInt32} {p : Sp} {i : Int} (h : fb E v) (hE : E ≤ 240) (hv : vP p) (hi : 0 ≤ i ∧ i < q2 p) : fb (E + 2) (wg2 v p i) := by
  unfold wg2
  unfold vP at hv
  split
  · exact fb_mono (fb_mul h (qt_b (by omega) (by omega) (by omega) (by omega)) (by omega) (by omega) (by have := fb_pos h; omega)) (by omega)
  · exact fb_mono h (by omega)
theorem wg3_b {E : Nat} {v : UInt32} {p : Sp} {i : Int} (h : fb E v) (hE : E ≤ 240) (hv : vP p) (hi : 0 ≤ i ∧ i < q2 p) : fb (E + 2) (wg3 v p i) := by
  unfold wg3
  unfold vP at hv
  split
  · exact fb_mono h (by omega)
  · exact fb_mono (fb_mul h (qt_b (by omega) (by omega) (by omega) (by omega)) (by omega) (by omega) (by have := fb_pos h; omega)) (by omega)
theorem wgh_b {E : Nat} {v : UInt32} {p : Sp} {i : Int} (h : fb E v) (hE : E ≤ 220) (hv : vP p) (hi : 0 ≤ i ∧ i < q2 p) : fb (E + 7) (wgh v p i) := wg3_b (wg2_b (wg1_b h (by omega) hv) (by omega) hv hi) (by omega) hv hi
/-- the floats of sounds -/
def vSf (K : So) : Prop := ∀ s i, 0 ≤ s → s < K.1 → 0 ≤ i → i < K.2.1 s → fb (134 + 15 * s.toNat) (K.2.2 s i) ∧ ¬ K.2.2 s i = 2147483648
theorem plF_b {K : So} {l : List Sp} (x : Int) (hZ : vSz K) (hF : vSf K) (hG : vG l) (hQ : ∀ p, p ∈ l → vQ K p) : fb (126 + 15 * K.1.toNat) (plF K l x) := by
  unfold plF
  split
  · exact fb_0 (by omega)
  · rename_i hn
    have ob := own_b (l := l) x
    have sm := spA_mem (l := l) (i := oR (en 0 l) x) (by omega) (by omega)
    have hin : q3 (spA l (oR (en 0 l) x)) ≤ x ∧ x < qe (spA l (oR (en 0 l) x)) := (own_iff hG.1 sm.2 x).mp rfl
    have vp := hG.2.2 _ sm.1
    have vq := hQ _ sm.1
    have z := hZ.1
    generalize spA l (oR (en 0 l) x) = p at *
    have vp' := vp
    unfold vP at vp'
    unfold vQ at vq
    unfold qe at hin
    have hb := (hF (q0 p) (q1 p + (x - q3 p)) (by omega) (by omega) (by omega) (by omega)).1
    have := wgh_b (i := x - q3 p) hb (by omega) vp (by omega)
    exact fb_mono this (by omega)
def hdG (K : So) (T : Tr) (t : Int) : Nat → Int → UInt32 → UInt32
  | 0, _, v => v
  | n + 1, k, v => hdG K T t n (k + 1) (if (T k).2.2 = 0 ∧ 0 ≤ t - (T k).1.2 ∧ t - (T k).1.2 ≤ 127 then FP.fadd v (plF K (T k).1.1 (t - (T k).1.2)) else v)
def hdF (K : So) (T : Tr) (t : Int) : UInt32 := hdG K T t 4 0 0
def vQT (K : So) (T : Tr) : Prop := ∀ k, 0 ≤ k → k ≤ 3 → ∀ t, t ∈ (T k).1 :: (T k).2.1 → ∀ p, p ∈ t.1 → vQ K p
def vQN (K : So) (T : Tr) : Prop := ∀ k, 0 ≤ k → k ≤ 3 → ∀ p, p ∈ (T k).1.1 → vQ K p
def vTN (T : Tr) : Prop := ∀ k, 0 ≤ k → k ≤ 3 → vTk (T k).1 ∧ ((T k).2.2 = 0 ∨ (T k).2.2 = 1)
theorem hdG_b {K : So} {T : Tr} {t : Int} (hZ : vSz K) (hF : vSf K) (hV : vTN T) (hQ : vQN K T) : ∀ (n : Nat) (k : Int) (v : UInt32), k + n = 4 → 0 ≤ k → fb (126 + 15 * K.1.toNat + 2 * k.toNat) v → ¬ v = 2147483648 → fb (134 + 15 * K.1.toNat) (hdG K T t n k v) ∧ ¬ hdG K T t n k v = 2147483648
  | 0, k, v, h1, h2, h3, h4 => ⟨fb_mono h3 (by omega), h4⟩
  | n + 1, k, v, h1, h2, h3, h4 => by
    have z := hZ.1
    unfold hdG
    have hp := plF_b (l := (T k).1.1) (t - (T k).1.2) hZ hF (hV k h2 (by omega)).1.1 (hQ k h2 (by omega))
    split
    · refine hdG_b hZ hF hV hQ n (k + 1) _ (by omega) (by omega) ?_ ?_
      · exact fb_mono (fb_add h3 (fb_mono hp (by omega)) (by omega)) (by omega)
      · exact fadd_nz (fb_fin h3 (by omega)) (fb_fin hp (by omega)) h4
    · exact hdG_b hZ hF hV hQ n (k + 1) _ (by omega) (by omega) (fb_mono h3 (by omega)) h4
theorem hdF_b {K : So} {T : Tr} (t : Int) (hZ : vSz K) (hF : vSf K) (hV : vTN T) (hQ : vQN K T) : fb (134 + 15 * K.1.toNat) (hdF K T t) ∧ ¬ hdF K T t = 2147483648 := hdG_b hZ hF hV hQ 4 0 0 (by omega) (by omega) (fb_0 (by omega)) (by decide)
theorem k_weigh {d : Nat} {y : Nat} {p : Sp} {v : UInt32} {i : Int} {E : Nat} {u : aS} {Q : aQ} (hy : cSp u y p) (hv : vP p) (hi : 0 ≤ i ∧ i < q2 p) (hb : fb E v) (hE : E ≤ 220) (h : Q (some (vF (wgh v p i))) u) : wpm (d + 1) M_X3_weigh [vR y, vF v, vI i] u Q := by
  have ky := kd_s1 hy.1.1
  obtain ⟨_, e0, e1, e2, e3, e4, e5, e6⟩ := hy
  have b1 := wg1_b hb (by omega) hv
  have b2 := wg2_b b1 (by omega) hv hi
  have b3 := wg3_b b2 (by omega) hv hi
  have vg := fb_vf (gq_b hv.2.2.2.1.1 hv.2.2.2.1.2) (by omega)
  have hv' := hv
  unfold vP at hv'
  have k3 : ∀ x, x = wgh v p i → wp (wpm d) cd_X3_weigh Q 65 [vR y, vF v, vI i, vF x] [] u 0 0 := by
    intro x hx
    refine run [] 60 ?_
    exact q_fq h hx
  have k2 : ∀ x, x = wg2 (wg1 v p) p i → wp (wpm d) cd_X3_weigh Q 34 [vR y, vF v, vI i, vF x] [] u 0 0 := by
    intro x hx
    refine run [(65, [])] 60 ?_
    repeat first
      | refine z_gq (by first | omega | (simp [hI_sI, hI_sF, hI_sR, hI_nw, hI_ff, hI_fl, hI_cp]; try omega)) ?_
      | refine z_iq rfl (by first | omega | (simp [hI_sI, hI_sF, hI_sR, hI_nw, hI_ff, hI_fl, hI_cp]; try omega)) (by first | omega | (simp [hI_sI, hI_sF, hI_sR, hI_nw, hI_ff, hI_fl, hI_cp]; try omega)) ?_
      | refine z_kq (ky) ?_
    refine z_bq (fun hz => ?_) (fun hz => ?_)
    · refine k3 x ?_
      unfold wgh wg3
      rw [if_pos (by omega), hx]
    · repeat first
        | refine z_gq (by first | omega | (simp [hI_sI, hI_sF, hI_sR, hI_nw, hI_ff, hI_fl, hI_cp]; try omega)) ?_
        | refine z_iq rfl (by first | omega | (simp [hI_sI, hI_sF, hI_sR, hI_nw, hI_ff, hI_fl, hI_cp]; try omega)) (by first | omega | (simp [hI_sI, hI_sF, hI_sR, hI_nw, hI_ff, hI_fl, hI_cp]; try omega)) ?_
        | refine z_kq (ky) ?_
      rw [e2, e6]
      have vq := fb_vf (qt_b (a := q2 p - i) (b := q6 p + 1) (by omega) (by omega) (by omega) (by omega)) (by omega)
      refine ⟨vq, ?_⟩
      have ex : FP.fmul x (qt (q2 p - i) (q6 p + 1)) = wgh v p i := by
        unfold wgh wg3
        rw [if_neg (by omega), hx]
      refine ⟨?_, ?_⟩
      · have := fb_vf b3 (by omega)
        unfold wg3 at this
        rw [if_neg (by omega), ← hx] at this
        exact this
      · exact k3 _ ex
  refine e_X3_weigh rfl (run [(34, [])] 60 ?_)
  repeat first
    | refine z_gq (by first | omega | (simp [hI_sI, hI_sF, hI_sR, hI_nw, hI_ff, hI_fl, hI_cp]; try omega)) ?_
    | refine z_iq rfl (by first | omega | (simp [hI_sI, hI_sF, hI_sR, hI_nw, hI_ff, hI_fl, hI_cp]; try omega)) (by first | omega | (simp [hI_sI, hI_sF, hI_sR, hI_nw, hI_ff, hI_fl, hI_cp]; try omega)) ?_
    | refine z_kq (ky) ?_
  rw [e4]
  refine ⟨vg, ?_⟩
  refine ⟨fb_vf b1 (by omega), ?_⟩
  repeat first
    | refine z_gq (by first | omega | (simp [hI_sI, hI_sF, hI_sR, hI_nw, hI_ff, hI_fl, hI_cp]; try omega)) ?_
    | refine z_iq rfl (by first | omega | (simp [hI_sI, hI_sF, hI_sR, hI_nw, hI_ff, hI_fl, hI_cp]; try omega)) (by first | omega | (simp [hI_sI, hI_sF, hI_sR, hI_nw, hI_ff, hI_fl, hI_cp]; try omega)) ?_
    | refine z_kq (ky) ?_
  refine z_bq (fun hz => ?_) (fun hz => ?_)
  · repeat first
      | refine z_gq (by first | omega | (simp [hI_sI, hI_sF, hI_sR, hI_nw, hI_ff, hI_fl, hI_cp]; try omega)) ?_
      | refine z_iq rfl (by first | omega | (simp [hI_sI, hI_sF, hI_sR, hI_nw, hI_ff, hI_fl, hI_cp]; try omega)) (by first | omega | (simp [hI_sI, hI_sF, hI_sR, hI_nw, hI_ff, hI_fl, hI_cp]; try omega)) ?_
      | refine z_kq (ky) ?_
    rw [e5]
    have vq := fb_vf (qt_b (a := i + 1) (b := q5 p + 1) (by omega) (by omega) (by omega) (by omega)) (by omega)
    refine ⟨vq, ?_⟩
    have ex : FP.fmul (wg1 v p) (qt (i + 1) (q5 p + 1)) = wg2 (wg1 v p) p i := by
      unfold wg2
      rw [if_pos (by omega)]
    refine ⟨?_, ?_⟩
    · have := fb_vf b2 (by omega)
      rw [← ex] at this
      exact this
    · exact k2 _ ex
  · refine k2 _ ?_
    unfold wg2
    rw [if_neg (by omega)]
    rfl
