/-! shut, silent, loudest, count -/
theorem sb_all : ((List.range 4).all fun k => (List.range 8).all fun r => !(Nat.blt r (2 ^ k)) || decide (b_or (r : Int) (b_shl 1 (k : Int)) = ((r + 2 ^ k : Nat) : Int))) = true := by decide +kernel
def pw (k : Int) : Int := if k = 0 then 1 else if k = 1 then 2 else if k = 2 then 4 else 8
theorem sbt_b {r k : Int} (k0 : 0 ≤ k) (k1 : k ≤ 3) (r0 : 0 ≤ r) (r1 : r < pw k) : b_or r (b_shl 1 k) = r + pw k := by
  have hk : k = 0 ∨ k = 1 ∨ k = 2 ∨ k = 3 := by omega
  have h := List.all_eq_true.mp sb_all k.toNat (List.mem_range.mpr (by omega))
  have r8 : r < 8 := by
    unfold pw at r1
    rcases hk with e | e | e | e <;> subst e <;> simp at r1 <;> omega
  have h := List.all_eq_true.mp h r.toNat (List.mem_range.mpr (by omega))
  have hp : ((2 ^ k.toNat : Nat) : Int) = pw k := by
    rcases hk with e | e | e | e <;> subst e <;> rfl
  have hb : Nat.blt r.toNat (2 ^ k.toNat) = true := by
    rw [Nat.blt_eq]
    omega
  rw [hb] at h
  simp only [Bool.not_true, Bool.false_or, decide_eq_true_eq] at h
  rw [show ((r.toNat : Nat) : Int) = r by omega, show ((k.toNat : Nat) : Int) = k by omega] at h
  rw [h]
  omega
def sbs (T : Tr) : Int := (T 0).2.2 + 2 * (T 1).2.2 + 4 * (T 2).2.2 + 8 * (T 3).2.2
theorem w_shutBits {d : Nat} {Q : aQ} {u : aS} {A : Al} (hA : cA u A) (hV : vTr A.2.2.2.1) {c s : Nat} : ∀ (n : Nat) (k r : Int), k + n = 4 → 0 ≤ k → 0 ≤ r → (n ≠ 0 → r < pw k) → Q (some (vI (r + sm (fun k => pw k * (A.2.2.2.1 k).2.2) n k))) u → wp (wpm d) cd_X7_shutBits Q 4 [vR 8, vI r, vI k] [] u c s
  | 0, k, r, h1, h2, h3, h4, h => by
    refine run [(4, [])] 60 ?_
    refine z_bq (fun hz => by omega) (fun hz => ?_)
    exact q_eq h (by show r = r + 0; omega)
  | n + 1, k, r, h1, h2, h3, h4, h => by
    have hS := hA.1
    have k1 : k ≤ 3 := by omega
    have hr := h4 (by omega)
    obtain ⟨a0, a1, p0, p1, p2, p3, hW⟩ := hA.2.2.2.2.2.1 k h2 k1
    have kB := (isB_k h2 k1).k0
    have e4 : hI u (50 + 20 * k.toNat) 4 = (A.2.2.2.1 k).2.2 := hW.2.2.2.2
    have vs := (hV k h2 k1).2.2
    have hb := sbt_b h2 k1 h3 hr
    have pk : n ≠ 0 → pw (k + 1) = 2 * pw k := by
      intro hn
      have hk : k = 0 ∨ k = 1 ∨ k = 2 := by omega
      rcases hk with e | e | e <;> subst e <;> rfl
    have pp : 1 ≤ pw k := by
      unfold pw
      split
      · omega
      · split
        · omega
        · split <;> omega
    have h' : Q (some (vI (r + (pw k * (A.2.2.2.1 k).2.2 + sm (fun k => pw k * (A.2.2.2.1 k).2.2) n (k + 1))))) u := h
    refine run [(4, [])] 60 ?_
    refine z_bq (fun hz => ?_) (fun hz => by omega)
    repeat first
      | refine z_gq (by first | omega | (simp [hI_sI, hI_sF, hI_sR, hI_nw, hI_ff, hI_fl, hI_cp]; try omega)) ?_
      | refine z_iq rfl (by first | omega | (simp [hI_sI, hI_sF, hI_sR, hI_nw, hI_ff, hI_fl, hI_cp]; try omega)) (by first | omega | (simp [hI_sI, hI_sF, hI_sR, hI_nw, hI_ff, hI_fl, hI_cp]; try omega)) ?_
      | refine z_dq (hS.tracks) ?_
      | refine z_dq (hS.track h2 k1) ?_
      | refine z_kq (kB) ?_
    refine z_bq (fun hy => ?_) (fun hy => ?_)
    · have e0 : (A.2.2.2.1 k).2.2 = 0 := by omega
      rw [e0, Int.mul_zero, Int.zero_add] at h'
      repeat first
        | refine z_gq (by first | omega | (simp [hI_sI, hI_sF, hI_sR, hI_nw, hI_ff, hI_fl, hI_cp]; try omega)) ?_
        | refine z_iq rfl (by first | omega | (simp [hI_sI, hI_sF, hI_sR, hI_nw, hI_ff, hI_fl, hI_cp]; try omega)) (by first | omega | (simp [hI_sI, hI_sF, hI_sR, hI_nw, hI_ff, hI_fl, hI_cp]; try omega)) ?_
      exact w_shutBits hA hV n (k + 1) r (by omega) (by omega) h3 (fun hn => by have := pk hn; omega) h'
    · have e1 : (A.2.2.2.1 k).2.2 = 1 := by omega
      rw [e1, Int.mul_one, ← Int.add_assoc] at h'
      rw [← hb] at h'
      repeat first
        | refine z_gq (by first | omega | (simp [hI_sI, hI_sF, hI_sR, hI_nw, hI_ff, hI_fl, hI_cp]; try omega)) ?_
        | refine z_iq rfl (by first | omega | (simp [hI_sI, hI_sF, hI_sR, hI_nw, hI_ff, hI_fl, hI_cp]; try omega)) (by first | omega | (simp [hI_sI, hI_sF, hI_sR, hI_nw, hI_ff, hI_fl, hI_cp]; try omega)) ?_
      exact w_shutBits hA hV n (k + 1) _ (by omega) (by omega) (by omega) (fun hn => by have := pk hn; omega) h'
theorem k_shutBits {d : Nat} {u : aS} {Q : aQ} {A : Al} (hA : cA u A) (hV : vTr A.2.2.2.1) (h : Q (some (vI (sbs A.2.2.2.1))) u) : wpm (d + 1) M_X7_shutBits [vR 8] u Q := by
  refine e_X7_shutBits rfl (run [(4, [])] 60 ?_)
  refine w_shutBits hA hV 4 0 0 (by omega) (by omega) (by omega) (fun _ => by decide) (q_eq h ?_)
  show 0 + (1 * (A.2.2.2.1 0).2.2 + (2 * (A.2.2.2.1 1).2.2 + (4 * (A.2.2.2.1 2).2.2 + (8 * (A.2.2.2.1 3).2.2 + 0)))) = (A.2.2.2.1 0).2.2 + 2 * (A.2.2.2.1 1).2.2 + 4 * (A.2.2.2.1 2).2.2 + 8 * (A.2.2.2.1 3).2.2
  omega
/-! silent -/
def isSil (v : UInt32) : Bool := decide ((Op.cmpValue (FP.fcmp v 0) .l).toInt = 0)
def sil (K : So) (T : Tr) : Int := cn (fun x => isSil (hdF K T x)) 128 0
theorem w_silC {d : Nat} {u : aS} {Q : aQ} {A : Al} (hA : cA u A) (hZ : vSz A.1) (hF : vSf A.1) (hV : vTN A.2.2.2.1) (hQ : vQN A.1 A.2.2.2.1) {c s : Nat} : ∀ (n : Nat) (x r : Int), x + n = 128 → 0 ≤ x → 0 ≤ r → r ≤ x → Q (some (vI (r + cn (fun x => isSil (hdF A.1 A.2.2.2.1 x)) n x))) u → wp (wpm (d + 5)) cd_X7_silentMoments Q 4 [vR 8, vI r, vI x] [] u c s
  | 0, x, r, h1, h2, h3, h4, h => by
    refine run [(4, [])] 60 ?_
    refine z_bq (fun hz => by omega) (fun hz => ?_)
    exact q_eq h (by show r = r + 0; omega)
  | n + 1, x, r, h1, h2, h3, h4, h => by
    rw [cn_s] at h
    refine run [(4, [])] 60 ?_
    refine z_bq (fun hz => ?_) (fun hz => by omega)
    refine k_heardAt hA hZ hF hV hQ (by omega) ?_
    refine z_bq (fun hy => ?_) (fun hy => ?_)
    · rw [if_pos (show isSil (hdF A.1 A.2.2.2.1 x) = true from decide_eq_true hy), ← Int.add_assoc] at h
      repeat first
        | refine z_gq (by first | omega | (simp [hI_sI, hI_sF, hI_sR, hI_nw, hI_ff, hI_fl, hI_cp]; try omega)) ?_
        | refine z_iq rfl (by first | omega | (simp [hI_sI, hI_sF, hI_sR, hI_nw, hI_ff, hI_fl, hI_cp]; try omega)) (by first | omega | (simp [hI_sI, hI_sF, hI_sR, hI_nw, hI_ff, hI_fl, hI_cp]; try omega)) ?_
      exact w_silC hA hZ hF hV hQ n (x + 1) (r + 1) (by omega) (by omega) (by omega) (by omega) h
    · rw [if_neg (show ¬ isSil (hdF A.1 A.2.2.2.1 x) = true from fun z => hy (of_decide_eq_true z)), Int.zero_add] at h
      repeat first
        | refine z_gq (by first | omega | (simp [hI_sI, hI_sF, hI_sR, hI_nw, hI_ff, hI_fl, hI_cp]; try omega)) ?_
        | refine z_iq rfl (by first | omega | (simp [hI_sI, hI_sF, hI_sR, hI_nw, hI_ff, hI_fl, hI_cp]; try omega)) (by first | omega | (simp [hI_sI, hI_sF, hI_sR, hI_nw, hI_ff, hI_fl, hI_cp]; try omega)) ?_
      exact w_silC hA hZ hF hV hQ n (x + 1) r (by omega) (by omega) (by omega) (by omega) h
theorem k_silent {d : Nat} {u : aS} {Q : aQ} {A : Al} (hA : cA u A) (hZ : vSz A.1) (hF : vSf A.1) (hV : vTN A.2.2.2.1) (hQ : vQN A.1 A.2.2.2.1) (h : Q (some (vI (sil A.1 A.2.2.2.1))) u) : wpm (d + 6) M_X7_silentMoments [vR 8] u Q := by
  refine e_X7_silentMoments rfl (run [(4, [])] 60 ?_)
  refine w_silC hA hZ hF hV hQ 128 0 0 (by omega) (by omega) (by omega) (by omega) ?_
  rw [Int.zero_add]
  exact h
theorem w_silM {d : Nat} {u : aS} {Q : aQ} {A : Al} (hA : mA u A) (hZ : vSz A.1) (hF : vSf A.1) (hV : vTN A.2.2.2.1) (hQ : vQN A.1 A.2.2.2.1) {c s : Nat} : ∀ (n : Nat) (x r : Int), x + n = 128 → 0 ≤ x → 0 ≤ r → r ≤ x → Q (some (vI (r + cn (fun x => isSil (hdF A.1 A.2.2.2.1 x)) n x))) u → wp (wpm (d + 4)) cd_X8_silent Q 4 [vR 139, vI r, vI x] [] u c s
  | 0, x, r, h1, h2, h3, h4, h => by
    refine run [(4, [])] 60 ?_
    refine z_bq (fun hz => by omega) (fun hz => ?_)
    exact q_eq h (by show r = r + 0; omega)
  | n + 1, x, r, h1, h2, h3, h4, h => by
    rw [cn_s] at h
    refine run [(4, [])] 60 ?_
    refine z_bq (fun hz => ?_) (fun hz => by omega)
    refine c_heardAt hA hZ hF hV hQ (by omega) ?_
    refine z_bq (fun hy => ?_) (fun hy => ?_)
    · rw [if_pos (show isSil (hdF A.1 A.2.2.2.1 x) = true from decide_eq_true hy), ← Int.add_assoc] at h
      repeat first
        | refine z_gq (by first | omega | (simp [hI_sI, hI_sF, hI_sR, hI_nw, hI_ff, hI_fl, hI_cp]; try omega)) ?_
        | refine z_iq rfl (by first | omega | (simp [hI_sI, hI_sF, hI_sR, hI_nw, hI_ff, hI_fl, hI_cp]; try omega)) (by first | omega | (simp [hI_sI, hI_sF, hI_sR, hI_nw, hI_ff, hI_fl, hI_cp]; try omega)) ?_
        | refine z_dq (mS.now hS) ?_
        | refine z_dq (mS.floats hS) ?_
        | refine z_dq (mS.sizes hS) ?_
        | refine z_dq (mS.shut hS) ?_
        | refine z_dq (mS.past hS) ?_
        | refine z_dq (mS.deeds hS) ?_
        | refine z_dq (mS.images hS) ?_
        | refine z_dq (mS.imageShut hS) ?_
        | refine z_dq (mS.kept hS) ?_
        | refine z_dq (mS.owner hS) ?_
        | refine z_dq (mS.old hS) ?_
        | refine z_dq (mS.letters hS) ?_
        | refine z_dq (mS.toldSizes hS) ?_
        | refine z_dq (mS.sort hS) ?_
        | refine z_dq (mS.room hS) ?_
        | refine z_dq (mS.things hS) ?_
      exact w_silM hA hZ hF hV hQ n (x + 1) (r + 1) (by omega) (by omega) (by omega) (by omega) h
    · rw [if_neg (show ¬ isSil (hdF A.1 A.2.2.2.1 x) = true from fun z => hy (of_decide_eq_true z)), ← Int.add_assoc] at h
      repeat first
        | refine z_gq (by first | omega | (simp [hI_sI, hI_sF, hI_sR, hI_nw, hI_ff, hI_fl, hI_cp]; try omega)) ?_
        | refine z_iq rfl (by first | omega | (simp [hI_sI, hI_sF, hI_sR, hI_nw, hI_ff, hI_fl, hI_cp]; try omega)) (by first | omega | (simp [hI_sI, hI_sF, hI_sR, hI_nw, hI_ff, hI_fl, hI_cp]; try omega)) ?_
        | refine z_dq (mS.now hS) ?_
        | refine z_dq (mS.floats hS) ?_
        | refine z_dq (mS.sizes hS) ?_
        | refine z_dq (mS.shut hS) ?_
        | refine z_dq (mS.past hS) ?_
        | refine z_dq (mS.deeds hS) ?_
        | refine z_dq (mS.images hS) ?_
        | refine z_dq (mS.imageShut hS) ?_
        | refine z_dq (mS.kept hS) ?_
        | refine z_dq (mS.owner hS) ?_
        | refine z_dq (mS.old hS) ?_
        | refine z_dq (mS.letters hS) ?_
        | refine z_dq (mS.toldSizes hS) ?_
        | refine z_dq (mS.sort hS) ?_
        | refine z_dq (mS.room hS) ?_
        | refine z_dq (mS.things hS) ?_
      exact w_silM hA hZ hF hV hQ n (x + 1) (r + 0) (by omega) (by omega) (by omega) (by omega) h
theorem c_silent {d : Nat} {u : aS} {Q : aQ} {A : Al} (hA : mA u A) (hZ : vSz A.1) (hF : vSf A.1) (hV : vTN A.2.2.2.1) (hQ : vQN A.1 A.2.2.2.1) (h : Q (some (vI (sil A.1 A.2.2.2.1))) u) : wpm (d + 5) M_X8_silent [vR 139] u Q := by
  refine e_X8_silent rfl (run [(4, [])] 60 ?_)
  refine w_silM hA hZ hF hV hQ 128 0 0 (by omega) (by omega) (by omega) (by omega) ?_
  rw [Int.zero_add]
  exact h
/-! loudest -/
def szF (v : UInt32) : UInt32 := if (Op.cmpValue (FP.fcmp v 0) .g).toInt < 0 then FP.fneg v else v
def gtF (a b : UInt32) : Prop := 0 < (Op.cmpValue (FP.fcmp a b) .l).toInt
def ldL (f : Int → UInt32) : Nat → Int → Int → UInt32 → Int
  | 0, _, b, _ => b
  | n + 1, x, b, g => if 0 < (Op.cmpValue (FP.fcmp (szF (f x)) g) .l).toInt then ldL f n (x + 1) x (szF (f x)) else ldL f n (x + 1) b g
theorem w_ldC {d : Nat} {u : aS} {Q : aQ} {A : Al} (hA : cA u A) (hZ : vSz A.1) (hF : vSf A.1) (hV : vTN A.2.2.2.1) (hQ : vQN A.1 A.2.2.2.1) {c s : Nat} : ∀ (n : Nat) (x b : Int) (g : UInt32) (w4 w5 : aV), x + n = 128 → 0 ≤ x → Q (some (vI (ldL (hdF A.1 A.2.2.2.1) n x b g))) u → wp (wpm (d + 5)) cd_X7_loudest Q 6 [vR 8, vI b, vF g, vI x, w4, w5] [] u c s
  | 0, x, b, g, w4, w5, h1, h2, h => by
    refine run [(6, [])] 60 ?_
    refine z_bq (fun hz => by omega) (fun hz => ?_)
    exact h
  | n + 1, x, b, g, w4, w5, h1, h2, h => by
    have key : ∀ z, z = szF (hdF A.1 A.2.2.2.1 x) → wp (wpm (d + 5)) cd_X7_loudest Q 35 [vR 8, vI b, vF g, vI x, vF (hdF A.1 A.2.2.2.1 x), w5] [vF z] u c s := by
      intro z hz
      unfold ldL at h
      rw [← hz] at h
      refine run [(6, [])] 60 ?_
      refine z_bq (fun hy => ?_) (fun hy => ?_)
      · rw [if_pos hy] at h
        repeat first
          | refine z_gq (by first | omega | (simp [hI_sI, hI_sF, hI_sR, hI_nw, hI_ff, hI_fl, hI_cp]; try omega)) ?_
          | refine z_iq rfl (by first | omega | (simp [hI_sI, hI_sF, hI_sR, hI_nw, hI_ff, hI_fl, hI_cp]; try omega)) (by first | omega | (simp [hI_sI, hI_sF, hI_sR, hI_nw, hI_ff, hI_fl, hI_cp]; try omega)) ?_
        exact w_ldC hA hZ hF hV hQ n (x + 1) x z _ _ (by omega) (by omega) h
      · rw [if_neg hy] at h
        repeat first
          | refine z_gq (by first | omega | (simp [hI_sI, hI_sF, hI_sR, hI_nw, hI_ff, hI_fl, hI_cp]; try omega)) ?_
          | refine z_iq rfl (by first | omega | (simp [hI_sI, hI_sF, hI_sR, hI_nw, hI_ff, hI_fl, hI_cp]; try omega)) (by first | omega | (simp [hI_sI, hI_sF, hI_sR, hI_nw, hI_ff, hI_fl, hI_cp]; try omega)) ?_
        exact w_ldC hA hZ hF hV hQ n (x + 1) b g _ _ (by omega) (by omega) h
    refine run [(6, []), (35, [])] 60 ?_
    refine z_bq (fun hz => ?_) (fun hz => by omega)
    refine k_heardAt hA hZ hF hV hQ (by omega) ?_
    refine z_bq (fun hy => ?_) (fun hy => ?_)
    · refine key _ ?_
      unfold szF
      rw [if_pos hy]
    · refine key _ ?_
      unfold szF
      rw [if_neg hy]
theorem w_ldM {d : Nat} {u : aS} {Q : aQ} {A : Al} (hA : mA u A) (hZ : vSz A.1) (hF : vSf A.1) (hV : vTN A.2.2.2.1) (hQ : vQN A.1 A.2.2.2.1) {c s : Nat} : ∀ (n : Nat) (x b : Int) (g : UInt32) (w4 w5 : aV), x + n = 128 → 0 ≤ x → Q (some (vI (ldL (hdF A.1 A.2.2.2.1) n x b g))) u → wp (wpm (d + 4)) cd_X8_loudest Q 8 [vR 139, vI b, vF g, vI x, w4, w5] [] u c s
  | 0, x, b, g, w4, w5, h1, h2, h => by
    refine run [(8, [])] 60 ?_
    refine z_bq (fun hz => by omega) (fun hz => ?_)
    exact h
  | n + 1, x, b, g, w4, w5, h1, h2, h => by
    have key : ∀ z, z = szF (hdF A.1 A.2.2.2.1 x) → wp (wpm (d + 4)) cd_X8_loudest Q 37 [vR 139, vI b, vF g, vI x, vF (hdF A.1 A.2.2.2.1 x), w5] [vF z] u c s := by
      intro z hz
      unfold ldL at h
      rw [← hz] at h
      refine run [(8, [])] 60 ?_
      refine z_bq (fun hy => ?_) (fun hy => ?_)
      · rw [if_pos hy] at h
        repeat first
          | refine z_gq (by first | omega | (simp [hI_sI, hI_sF, hI_sR, hI_nw, hI_ff, hI_fl, hI_cp]; try omega)) ?_
          | refine z_iq rfl (by first | omega | (simp [hI_sI, hI_sF, hI_sR, hI_nw, hI_ff, hI_fl, hI_cp]; try omega)) (by first | omega | (simp [hI_sI, hI_sF, hI_sR, hI_nw, hI_ff, hI_fl, hI_cp]; try omega)) ?_
          | refine z_dq (mS.now hS) ?_
          | refine z_dq (mS.floats hS) ?_
          | refine z_dq (mS.sizes hS) ?_
          | refine z_dq (mS.shut hS) ?_
          | refine z_dq (mS.past hS) ?_
          | refine z_dq (mS.deeds hS) ?_
          | refine z_dq (mS.images hS) ?_
          | refine z_dq (mS.imageShut hS) ?_
          | refine z_dq (mS.kept hS) ?_
          | refine z_dq (mS.owner hS) ?_
          | refine z_dq (mS.old hS) ?_
          | refine z_dq (mS.letters hS) ?_
          | refine z_dq (mS.toldSizes hS) ?_
          | refine z_dq (mS.sort hS) ?_
          | refine z_dq (mS.room hS) ?_
          | refine z_dq (mS.things hS) ?_
        exact w_ldM hA hZ hF hV hQ n (x + 1) x z _ _ (by omega) (by omega) h
      · rw [if_neg hy] at h
        repeat first
          | refine z_gq (by first | omega | (simp [hI_sI, hI_sF, hI_sR, hI_nw, hI_ff, hI_fl, hI_cp]; try omega)) ?_
          | refine z_iq rfl (by first | omega | (simp [hI_sI, hI_sF, hI_sR, hI_nw, hI_ff, hI_fl, hI_cp]; try omega)) (by first | omega | (simp [hI_sI, hI_sF, hI_sR, hI_nw, hI_ff, hI_fl, hI_cp]; try omega)) ?_
          | refine z_dq (mS.now hS) ?_
          | refine z_dq (mS.floats hS) ?_
          | refine z_dq (mS.sizes hS) ?_
          | refine z_dq (mS.shut hS) ?_
          | refine z_dq (mS.past hS) ?_
          | refine z_dq (mS.deeds hS) ?_
          | refine z_dq (mS.images hS) ?_
          | refine z_dq (mS.imageShut hS) ?_
          | refine z_dq (mS.kept hS) ?_
          | refine z_dq (mS.owner hS) ?_
          | refine z_dq (mS.old hS) ?_
          | refine z_dq (mS.letters hS) ?_
          | refine z_dq (mS.toldSizes hS) ?_
          | refine z_dq (mS.sort hS) ?_
          | refine z_dq (mS.room hS) ?_
          | refine z_dq (mS.things hS) ?_
        exact w_ldM hA hZ hF hV hQ n (x + 1) b g _ _ (by omega) (by omega) h
    refine run [(8, []), (37, [])] 60 ?_
    refine z_bq (fun hz => ?_) (fun hz => by omega)
    refine c_heardAt hA hZ hF hV hQ (by omega) ?_
    refine z_bq (fun hy => ?_) (fun hy => ?_)
    · refine key _ ?_
      unfold szF
      rw [if_pos hy]
    · refine key _ ?_
      unfold szF
      rw [if_neg hy]
theorem cv_l {a b : UInt32} (ha : FP.Core.FFin a) (hb : FP.Core.FFin b) : 0 < (Op.cmpValue (FP.fcmp a b) .l).toInt ↔ FP.Core.fkey b < FP.Core.fkey a := by
  have h := FP.Core.fcmp_gt_key ha.ne_nan hb.ne_nan
  rw [← h]
  cases hc : FP.Core.fcmp a b with
  | none => exact absurd ((FP.Core.fcmp_none a b).mp hc) (fun z => z.elim ha.ne_nan hb.ne_nan)
  | some o =>
    show 0 < (Op.cmpValue (FP.Core.fcmp a b) .l).toInt ↔ _
    rw [hc]
    cases o <;> decide
theorem cv_g {a b : UInt32} (ha : FP.Core.FFin a) (hb : FP.Core.FFin b) : (Op.cmpValue (FP.fcmp a b) .g).toInt < 0 ↔ FP.Core.fkey a < FP.Core.fkey b := by
  have h := FP.Core.fcmp_lt_key ha.ne_nan hb.ne_nan
  rw [← h]
  cases hc : FP.Core.fcmp a b with
  | none => exact absurd ((FP.Core.fcmp_none a b).mp hc) (fun z => z.elim ha.ne_nan hb.ne_nan)
  | some o =>
    show (Op.cmpValue (FP.Core.fcmp a b) .g).toInt < 0 ↔ _
    rw [hc]
    cases o <;> decide
theorem fneg_n {v : UInt32} (h : 2 ^ 31 ≤ v.toNat) : (FP.fneg v).toNat = v.toNat - 2 ^ 31 := by
  have hv : v.toNat < 2 ^ (31 + 1) := v.toNat_lt
  show (v ^^^ 0x80000000).toNat = _
  rw [UInt32.toNat_xor]
  have := FP.xor_top (a := v.toNat) (k := 31) hv
  rw [show (0x80000000 : UInt32).toNat = 2 ^ 31 from rfl, this.2 h]
theorem szF_k {E : Nat} {v : UInt32} (hb : fb E v) (hE : E ≤ 255) (hz : ¬ v = 2147483648) : FP.Core.FFin (szF v) ∧ 0 ≤ FP.Core.fkey (szF v) ∧ (FP.Core.fkey (szF v) = 0 → szF v = 0) := by
  have fv := fb_fin hb hE
  have f0 : FP.Core.FFin 0 := fb_fin (fb_0 (E := 1) (by omega)) (by omega)
  have k0 : FP.Core.fkey 0 = 0 := by decide
  have hlt : v.toNat < 2 ^ 32 := v.toNat_lt
  have hzn : ¬ v.toNat = 2 ^ 31 := fun z => hz (UInt32.toNat_inj.mp z)
  have hm := (FP.Core.fin_bits32 v).mp fv
  unfold szF
  by_cases hc : (Op.cmpValue (FP.fcmp v 0) .g).toInt < 0
  · rw [if_pos hc]
    rw [cv_g fv f0, k0] at hc
    unfold FP.Core.fkey at hc
    by_cases hs : 2 ^ 31 ≤ v.toNat
    · have hn := fneg_n hs
      refine ⟨(FP.Core.fin_bits32 _).mpr ?_, ?_, ?_⟩
      · rw [hn]
        omega
      · unfold FP.Core.fkey
        rw [hn, if_neg (by omega)]
        omega
      · unfold FP.Core.fkey
        rw [hn, if_neg (by omega)]
        intro z
        omega
    · rw [if_neg hs] at hc
      omega
  · rw [if_neg hc]
    rw [cv_g fv f0, k0] at hc
    refine ⟨fv, by omega, fun z => ?_⟩
    unfold FP.Core.fkey at z hc
    by_cases hs : 2 ^ 31 ≤ v.toNat
    · rw [if_pos hs] at z
      omega
    · rw [if_neg hs] at z
      apply UInt32.toNat_inj.mp
      show v.toNat = 0
      omega
theorem ld_eq {f : Int → UInt32} {E : Nat} (hb : fb E (f 0)) (hE : E ≤ 255) (hz : ¬ f 0 = 2147483648) : ldL f 128 0 0 3212836864 = ldL f 128 0 0 0 := by
  obtain ⟨s1, s2, s3⟩ := szF_k hb hE hz
  have f0 : FP.Core.FFin 0 := fb_fin (fb_0 (E := 1) (by omega)) (by omega)
  have k0 : FP.Core.fkey 0 = 0 := by decide
  have f1 : FP.Core.FFin 3212836864 := fb_fin (E := 128) (by decide : (3212836864 : UInt32).toNat % 2 ^ 31 < 128 * 2 ^ 23) (by omega)
  have k1 : FP.Core.fkey 3212836864 < 0 := by decide
  have a1 : 0 < (Op.cmpValue (FP.fcmp (szF (f 0)) 3212836864) .l).toInt := (cv_l s1 f1).mpr (by omega)
  show (if 0 < (Op.cmpValue (FP.fcmp (szF (f 0)) 3212836864) .l).toInt then ldL f 127 (0 + 1) 0 (szF (f 0)) else ldL f 127 (0 + 1) 0 3212836864) = if 0 < (Op.cmpValue (FP.fcmp (szF (f 0)) 0) .l).toInt then ldL f 127 (0 + 1) 0 (szF (f 0)) else ldL f 127 (0 + 1) 0 0
  rw [if_pos a1]
  by_cases hc : 0 < (Op.cmpValue (FP.fcmp (szF (f 0)) 0) .l).toInt
  · rw [if_pos hc]
  · rw [if_neg hc]
    rw [cv_l s1 f0, k0] at hc
    rw [s3 (by omega)]
def lds (K : So) (T : Tr) : Int := ldL (hdF K T) 128 0 0 0
theorem k_loudest {d : Nat} {u : aS} {Q : aQ} {A : Al} (hA : cA u A) (hZ : vSz A.1) (hF : vSf A.1) (hV : vTN A.2.2.2.1) (hQ : vQN A.1 A.2.2.2.1) (h : Q (some (vI (lds A.1 A.2.2.2.1))) u) : wpm (d + 6) M_X7_loudest [vR 8] u Q := by
  refine e_X7_loudest rfl (run [(6, [])] 60 ?_)
  exact w_ldC hA hZ hF hV hQ 128 0 0 0 _ _ (by omega) (by omega) h
theorem c_loudest {d : Nat} {u : aS} {Q : aQ} {A : Al} (hA : mA u A) (hZ : vSz A.1) (hF : vSf A.1) (hV : vTN A.2.2.2.1) (hQ : vQN A.1 A.2.2.2.1) (h : Q (some (vI (lds A.1 A.2.2.2.1))) u) : wpm (d + 5) M_X8_loudest [vR 139] u Q := by
  have z := hZ.1
  have hb := hdF_b 0 hZ hF hV hQ
  refine e_X8_loudest rfl (run [(8, [])] 60 ?_)
  refine w_ldM hA hZ hF hV hQ 128 0 0 3212836864 _ _ (by omega) (by omega) (q_eq h ?_)
  exact ld_eq hb.1 (by omega) hb.2
def oCount (A : Al) (w : Int) : Int := if w = 0 then A.1.1 else if 1 ≤ w ∧ w ≤ 4 then (A.2.2.2.1 (w - 1)).1.1.length else if w = 5 then sbs A.2.2.2.1 else if w = 6 then lds A.1 A.2.2.2.1 else if w = 7 then sil A.1 A.2.2.2.1 else if 8 ≤ w ∧ w ≤ 11 then gpC 0 (A.2.2.2.1 (w - 8)).1.1 else if w = 12 then tOn A.2.2.1 0 + tOn A.2.2.1 1 + tOn A.2.2.1 2 else if 13 ≤ w ∧ w ≤ 16 then (A.2.2.2.1 (w - 13)).2.1.length else if w = 17 then A.2.1.1 else if 18 ≤ w ∧ w ≤ 21 then (A.2.2.2.1 (w - 18)).1.2 + 100 else -2000000002
