/-! tracks: the model's helpers -/
theorem Fw_0 {f : Int → Int} {i : Int} {p : Sp} (h : Fw f i p) : f (7 * i + 0) = q0 p := by
  rw [Int.add_zero]
  exact h.1
theorem mTk_f {u : aS} {a : Nat} {b : Int} {K : Tk} (h : mTk u a b K) {j : Nat} {p : Sp} (hp : K.1[j]? = some p) : Fw (fun q => hI u a (b + q)) j p := by
  obtain ⟨h0, h1, h2, h3, h4, h5, h6⟩ := h.2.2 j p hp
  unfold Fw
  simp only [← Int.add_assoc]
  exact ⟨h0, h1, h2, h3, h4, h5, h6⟩
theorem mTk_m {u : aS} {a : Nat} {b : Int} {K : Tk} (h1 : hI u a (b + 84) = K.1.length) (h2 : hI u a (b + 85) = K.2) (h3 : ∀ (j : Nat) (p : Sp), K.1[j]? = some p → Fw (fun q => hI u a (b + q)) j p) : mTk u a b K := by
  refine ⟨h1, h2, fun i p hp => ?_⟩
  have h := h3 i p hp
  unfold Fw at h
  simp only [← Int.add_assoc] at h
  exact h
theorem get_lt {l : List Sp} {j : Nat} {p : Sp} (h : l[j]? = some p) : j < l.length := by
  apply Classical.byContradiction
  intro hn
  rw [List.getElem?_eq_none (by omega)] at h
  cases h
theorem mTk_cp {u u' : aS} {a a' : Nat} {b b' : Int} {K : Tk} (hl : K.1.length ≤ 12) (h : ∀ q, 0 ≤ q → q < 86 → hI u' a' (b' + q) = hI u a (b + q)) (hK : mTk u a b K) : mTk u' a' b' K := by
  refine mTk_m ((h 84 (by omega) (by omega)).trans hK.1) ((h 85 (by omega) (by omega)).trans hK.2.1) (fun j p hp => ?_)
  have hj := get_lt hp
  have f := mTk_f hK hp
  unfold Fw at f ⊢
  simp only [] at f ⊢
  rw [h _ (by omega) (by omega), h _ (by omega) (by omega), h _ (by omega) (by omega), h _ (by omega) (by omega), h _ (by omega) (by omega), h _ (by omega) (by omega), h _ (by omega) (by omega)]
  exact f
theorem c_isSpan {d : Nat} {k i : Int} {u : aS} {Q : aQ} (hS : mS u) (hm : 0 ≤ k → k ≤ 3 → 0 ≤ hI u 142 (86 * k + 84) ∧ hI u 142 (86 * k + 84) ≤ 12) (h1 : 0 ≤ k → k ≤ 3 → 0 ≤ i → i < hI u 142 (86 * k + 84) → Q (some (vI 1)) u) (h0 : ¬ ((0 ≤ k ∧ k ≤ 3) ∧ 0 ≤ i ∧ i < hI u 142 (86 * k + 84)) → Q (some (vI 0)) u) : wpm (d + 3) M_X8_isSpan [vR 139, vI k, vI i] u Q := by
  refine e_X8_isSpan rfl (run [] 60 ?_)
  refine c_isTrack (fun k0 k1 => ?_) (fun k0 => ?_)
  · have := hm k0 k1
    refine c_many hS ⟨k0, k1⟩ ?_
    repeat first
      | refine z_gq (by first | omega | (simp [hI_sI, hI_sF, hI_sR, hI_nw, hI_ff, hI_fl, hI_cp]; try omega)) ?_
      | refine z_iq rfl (by first | omega | (simp [hI_sI, hI_sF, hI_sR, hI_nw, hI_ff, hI_fl, hI_cp]; try omega)) (by first | omega | (simp [hI_sI, hI_sF, hI_sR, hI_nw, hI_ff, hI_fl, hI_cp]; try omega)) ?_
      | refine z_dq (mS.now hS) ?_
      | refine z_dq (mS.floats hS) ?_
      | refine z_dq (mS.sizes hS) ?_
      | refine z_dq (mS.shut hS) ?_
      | refine z_dq (mS.past hS) ?_
      | refine z_dq (mS.deeds hS) ?_
      | refine z_dq (mS.images hS) ?_
      | refine z_dq (mS.imageShut hS) ?_
      | refine z_dq (mS.kept hS) ?_
      | refine z_dq (mS.owner hS) ?_
      | refine z_dq (mS.old hS) ?_
      | refine z_dq (mS.letters hS) ?_
      | refine z_dq (mS.toldSizes hS) ?_
      | refine z_dq (mS.sort hS) ?_
      | refine z_dq (mS.room hS) ?_
      | refine z_dq (mS.things hS) ?_
    refine c_in (fun i0 i1 => ?_) (fun i0 => ?_)
    · exact h1 k0 k1 i0 (by omega)
    · exact h0 (by omega)
  · exact h0 (by omega)
theorem w_gives {d : Nat} {Q : aQ} {a b w : Int} (hb : b ≤ 128) {c s : Nat} : ∀ (n : Nat) (i : Int) (u : aS), mS u → i + n = b → 0 ≤ i → Q none (fl u 149 i b w) → wp (wpm d) cd_X8_gives Q 3 [vR 139, vI a, vI b, vI w, vI i] [] u c s
  | 0, i, u, hS, h1, h2, h => by
    refine run [(3, [])] 40 ?_
    refine z_bq (fun hl => ?_) (fun hl => ?_)
    · omega
    · rw [fl_end u _ _ (by omega)] at h
      exact h
  | n + 1, i, u, hS, h1, h2, h => by
    refine run [(3, [])] 40 ?_
    refine z_bq (fun hl => ?_) (fun hl => by omega)
    repeat first
      | refine z_gq (by first | omega | (simp [hI_sI, hI_sF, hI_sR, hI_nw, hI_ff, hI_fl, hI_cp]; try omega)) ?_
      | refine z_iq rfl (by first | omega | (simp [hI_sI, hI_sF, hI_sR, hI_nw, hI_ff, hI_fl, hI_cp]; try omega)) (by first | omega | (simp [hI_sI, hI_sF, hI_sR, hI_nw, hI_ff, hI_fl, hI_cp]; try omega)) ?_
      | refine z_dq (mS.owner hS) ?_
    refine w_gives hb n (i + 1) _ hS (by omega) (by omega) ?_
    rw [← fl_step u _ _ (by omega)] at h
    exact h
theorem c_gives {d : Nat} {a b w : Int} {u : aS} {Q : aQ} (hS : mS u) (ha : 0 ≤ a) (hab : a ≤ b) (hb : b ≤ 128) (h : Q none (fl u 149 a b w)) : wpm (d + 1) M_X8_gives [vR 139, vI a, vI b, vI w] u Q := by
  refine e_X8_gives rfl (run [(3, [])] 40 ?_)
  exact w_gives hb (b - a).toNat a u hS (by omega) ha h
theorem c_begins {d : Nat} {x t : Int} {u : aS} {Q : aQ} (hS : mS u) (hx : 0 ≤ x ∧ x < 128) (h1 : bgb (hI u 149) t x = true → Q (some (vI 1)) u) (h0 : bgb (hI u 149) t x = false → Q (some (vI 0)) u) : wpm (d + 1) M_X8_begins [vR 139, vI x, vI t] u Q := by
  have g1 : (¬ hI u 149 x = -1 ∧ (x = 0 ∨ x = t ∨ ¬ hI u 149 x = hI u 149 (x - 1))) → Q (some (vI 1)) u := fun z => h1 (bgb_t.mpr z)
  have g0 : ¬ (¬ hI u 149 x = -1 ∧ (x = 0 ∨ x = t ∨ ¬ hI u 149 x = hI u 149 (x - 1))) → Q (some (vI 0)) u := fun z => h0 (Bool.eq_false_iff.mpr (fun y => z (bgb_t.mp y)))
  refine e_X8_begins rfl (run [] 60 ?_)
  repeat first
    | refine z_gq (by first | omega | (simp [hI_sI, hI_sF, hI_sR, hI_nw, hI_ff, hI_fl, hI_cp]; try omega)) ?_
    | refine z_iq rfl (by first | omega | (simp [hI_sI, hI_sF, hI_sR, hI_nw, hI_ff, hI_fl, hI_cp]; try omega)) (by first | omega | (simp [hI_sI, hI_sF, hI_sR, hI_nw, hI_ff, hI_fl, hI_cp]; try omega)) ?_
    | refine z_dq (mS.owner hS) ?_
  refine z_bq (fun ha => ?_) (fun ha => ?_)
  · exact g0 (by omega)
  · refine z_bq (fun hb => ?_) (fun hb => ?_)
    · exact g1 (by omega)
    · refine z_bq (fun hc => ?_) (fun hc => ?_)
      · exact g1 (by omega)
      · repeat first
          | refine z_gq (by first | omega | (simp [hI_sI, hI_sF, hI_sR, hI_nw, hI_ff, hI_fl, hI_cp]; try omega)) ?_
          | refine z_iq rfl (by first | omega | (simp [hI_sI, hI_sF, hI_sR, hI_nw, hI_ff, hI_fl, hI_cp]; try omega)) (by first | omega | (simp [hI_sI, hI_sF, hI_sR, hI_nw, hI_ff, hI_fl, hI_cp]; try omega)) ?_
          | refine z_dq (mS.owner hS) ?_
        refine z_bq (fun hd => ?_) (fun hd => ?_)
        · exact g0 (by omega)
        · exact g1 (by omega)
theorem w_runs {d : Nat} {Q : aQ} {u : aS} {t : Int} (hS : mS u) {c s : Nat} : ∀ (n : Nat) (i r : Int), i + n = 128 → 0 ≤ i → 0 ≤ r → r ≤ i → Q (some (vI (r + cn (bgb (hI u 149) t) n i))) u → wp (wpm (d + 1)) cd_X8_runs Q 4 [vR 139, vI t, vI r, vI i] [] u c s
  | 0, i, r, h1, h2, h3, h4, h => by
    refine run [(4, [])] 40 ?_
    refine z_bq (fun hl => ?_) (fun hl => ?_)
    · omega
    · rw [cn_0, Int.add_zero] at h
      exact h
  | n + 1, i, r, h1, h2, h3, h4, h => by
    rw [cn_s] at h
    refine run [(4, [])] 40 ?_
    refine z_bq (fun hl => ?_) (fun hl => by omega)
    refine c_begins hS (by omega) (fun hb => ?_) (fun hb => ?_)
    · repeat first
        | refine z_gq (by first | omega | (simp [hI_sI, hI_sF, hI_sR, hI_nw, hI_ff, hI_fl, hI_cp]; try omega)) ?_
        | refine z_iq rfl (by first | omega | (simp [hI_sI, hI_sF, hI_sR, hI_nw, hI_ff, hI_fl, hI_cp]; try omega)) (by first | omega | (simp [hI_sI, hI_sF, hI_sR, hI_nw, hI_ff, hI_fl, hI_cp]; try omega)) ?_
        | refine z_dq (mS.owner hS) ?_
      refine w_runs hS n (i + 1) (r + 1) (by omega) (by omega) (by omega) (by omega) ?_
      rw [if_pos hb, ← Int.add_assoc] at h
      exact h
    · repeat first
        | refine z_gq (by first | omega | (simp [hI_sI, hI_sF, hI_sR, hI_nw, hI_ff, hI_fl, hI_cp]; try omega)) ?_
        | refine z_iq rfl (by first | omega | (simp [hI_sI, hI_sF, hI_sR, hI_nw, hI_ff, hI_fl, hI_cp]; try omega)) (by first | omega | (simp [hI_sI, hI_sF, hI_sR, hI_nw, hI_ff, hI_fl, hI_cp]; try omega)) ?_
        | refine z_dq (mS.owner hS) ?_
      refine w_runs hS n (i + 1) (r + 0) (by omega) (by omega) (by omega) (by omega) ?_
      rw [if_neg (by rw [hb]; decide), ← Int.add_assoc] at h
      exact h
theorem c_runs {d : Nat} {t : Int} {u : aS} {Q : aQ} (hS : mS u) (h : Q (some (vI (cn (bgb (hI u 149) t) 128 0))) u) : wpm (d + 2) M_X8_runs [vR 139, vI t] u Q := by
  refine e_X8_runs rfl (run [(4, [])] 40 ?_)
  refine w_runs hS 128 0 0 (by omega) (by omega) (by omega) (by omega) ?_
  rw [Int.zero_add]
  exact h
theorem c_least {d : Nat} {a b : Int} {u : aS} {Q : aQ} (h : Q (some (vI (min a b))) u) : wpm (d + 1) M_X8_least [vI a, vI b] u Q := by
  refine e_X8_least rfl (run [] 40 ?_)
  refine z_bq (fun hz => ?_) (fun hz => ?_)
  · exact q_eq h (by omega)
  · exact q_eq h (by omega)
theorem c_brings {d : Nat} {s f m t : Int} {u : aS} {Q : aQ} (hS : mS u) (ht : 0 ≤ t) (hm : 0 ≤ m) (hb : t + m ≤ 128) (h : Q none (fl (sI (sI (sI (sI u 150 84 s) 150 85 f) 150 86 m) 150 87 t) 149 t (t + m) 12)) : wpm (d + 2) M_X8_brings [vR 139, vI s, vI f, vI m, vI t] u Q := by
  refine e_X8_brings rfl (run [] 60 ?_)
  repeat first
    | refine z_gq (by first | omega | (simp [hI_sI, hI_sF, hI_sR, hI_nw, hI_ff, hI_fl, hI_cp]; try omega)) ?_
    | refine z_iq rfl (by first | omega | (simp [hI_sI, hI_sF, hI_sR, hI_nw, hI_ff, hI_fl, hI_cp]; try omega)) (by first | omega | (simp [hI_sI, hI_sF, hI_sR, hI_nw, hI_ff, hI_fl, hI_cp]; try omega)) ?_
    | refine z_dq (mS.old hS) ?_
  refine c_gives hS ht (by omega) hb ?_
  exact h
theorem c_fades {d : Nat} {a b g : Int} {u : aS} {Q : aQ} (hS : mS u) (h : Q none (sI (sI (sI u 150 88 g) 150 89 a) 150 90 b)) : wpm (d + 1) M_X8_fades [vR 139, vI g, vI a, vI b] u Q := by
  refine e_X8_fades rfl (run [] 60 ?_)
  repeat first
    | refine z_gq (by first | omega | (simp [hI_sI, hI_sF, hI_sR, hI_nw, hI_ff, hI_fl, hI_cp]; try omega)) ?_
    | refine z_iq rfl (by first | omega | (simp [hI_sI, hI_sF, hI_sR, hI_nw, hI_ff, hI_fl, hI_cp]; try omega)) (by first | omega | (simp [hI_sI, hI_sF, hI_sR, hI_nw, hI_ff, hI_fl, hI_cp]; try omega)) ?_
    | refine z_dq (mS.old hS) ?_
  exact h
theorem w_tells0 {d : Nat} {Q : aQ} {k : Int} {c s : Nat} {w : aV} : ∀ (n : Nat) (i : Int) (u : aS), mS u → i + n = 128 → 0 ≤ i → wp (wpm d) cd_X8_tells Q 22 [vR 139, vI k, vI 128, w] [] (fl u 149 i 128 (-1)) c s → wp (wpm d) cd_X8_tells Q 2 [vR 139, vI k, vI i, w] [] u c s
  | 0, i, u, hS, h1, h2, h => by
    refine run [(2, []), (22, [])] 40 ?_
    refine z_bq (fun hl => ?_) (fun hl => ?_)
    · omega
    · have e : i = 128 := by omega
      subst e
      rw [fl_end u _ _ (by omega)] at h
      exact h
  | n + 1, i, u, hS, h1, h2, h => by
    refine run [(2, []), (22, [])] 40 ?_
    refine z_bq (fun hl => ?_) (fun hl => by omega)
    repeat first
      | refine z_gq (by first | omega | (simp [hI_sI, hI_sF, hI_sR, hI_nw, hI_ff, hI_fl, hI_cp]; try omega)) ?_
      | refine z_iq rfl (by first | omega | (simp [hI_sI, hI_sF, hI_sR, hI_nw, hI_ff, hI_fl, hI_cp]; try omega)) (by first | omega | (simp [hI_sI, hI_sF, hI_sR, hI_nw, hI_ff, hI_fl, hI_cp]; try omega)) ?_
      | refine z_dq (mS.owner hS) ?_
    refine w_tells0 n (i + 1) _ hS (by omega) (by omega) ?_
    rw [← fl_step u _ _ (by omega)] at h
    exact h
theorem w_tells1 {d : Nat} {Q : aQ} {k : Int} (hk : 0 ≤ k ∧ k ≤ 3) {c s : Nat} {w : aV} : ∀ (n : Nat) (i : Int) (u : aS), mS u → i + n = 84 → 0 ≤ i → wp (wpm d) cd_X8_tells Q 53 [vR 139, vI k, vI 84, w] [] (cp u 150 i 84 142 (86 * k)) c s → wp (wpm d) cd_X8_tells Q 24 [vR 139, vI k, vI i, w] [] u c s
  | 0, i, u, hS, h1, h2, h => by
    refine run [(24, []), (53, [])] 40 ?_
    refine z_bq (fun hl => ?_) (fun hl => ?_)
    · omega
    · have e : i = 84 := by omega
      subst e
      rw [cp_end u _ _ _ (by omega)] at h
      exact h
  | n + 1, i, u, hS, h1, h2, h => by
    refine run [(24, []), (53, [])] 40 ?_
    refine z_bq (fun hl => ?_) (fun hl => by omega)
    repeat first
      | refine z_gq (by first | omega | (simp [hI_sI, hI_sF, hI_sR, hI_nw, hI_ff, hI_fl, hI_cp]; try omega)) ?_
      | refine z_iq rfl (by first | omega | (simp [hI_sI, hI_sF, hI_sR, hI_nw, hI_ff, hI_fl, hI_cp]; try omega)) (by first | omega | (simp [hI_sI, hI_sF, hI_sR, hI_nw, hI_ff, hI_fl, hI_cp]; try omega)) ?_
      | refine z_dq (mS.old hS) ?_
      | refine z_dq (mS.now hS) ?_
    refine w_tells1 hk n (i + 1) _ hS (by omega) (by omega) ?_
    rw [← cp_stp u _ _ _ (by omega) (by omega)] at h
    rw [show 86 * k + i = i + 86 * k by omega]
    exact h
theorem w_tells2 {d : Nat} {Q : aQ} {k i E : Int} (hk : 0 ≤ k ∧ k ≤ 3) (hi : 0 ≤ i ∧ i ≤ 11) (hE : E ≤ 128) {c s : Nat} : ∀ (n : Nat) (x : Int) (u : aS), mS u → hI u 142 (86 * k + 7 * i + 3) + hI u 142 (86 * k + 7 * i + 2) = E → x + n = E → 0 ≤ x → wp (wpm (d + 1)) cd_X8_tells Q 104 [vR 139, vI k, vI i, vI E] [] (fl u 149 x E i) c s → wp (wpm (d + 1)) cd_X8_tells Q 72 [vR 139, vI k, vI i, vI x] [] u c s
  | 0, x, u, hS, he, h1, h2, h => by
    refine run [(72, []), (104, [])] 40 ?_
    refine c_of hS hk hi (by omega) ?_
    refine c_of hS hk hi (by omega) ?_
    repeat first
      | refine z_gq (by first | omega | (simp [hI_sI, hI_sF, hI_sR, hI_nw, hI_ff, hI_fl, hI_cp]; try omega)) ?_
      | refine z_iq rfl (by first | omega | (simp [hI_sI, hI_sF, hI_sR, hI_nw, hI_ff, hI_fl, hI_cp]; try omega)) (by first | omega | (simp [hI_sI, hI_sF, hI_sR, hI_nw, hI_ff, hI_fl, hI_cp]; try omega)) ?_
      | refine z_dq (mS.now hS) ?_
      | refine z_dq (mS.floats hS) ?_
      | refine z_dq (mS.sizes hS) ?_
      | refine z_dq (mS.shut hS) ?_
      | refine z_dq (mS.past hS) ?_
      | refine z_dq (mS.deeds hS) ?_
      | refine z_dq (mS.images hS) ?_
      | refine z_dq (mS.imageShut hS) ?_
      | refine z_dq (mS.kept hS) ?_
      | refine z_dq (mS.owner hS) ?_
      | refine z_dq (mS.old hS) ?_
      | refine z_dq (mS.letters hS) ?_
      | refine z_dq (mS.toldSizes hS) ?_
      | refine z_dq (mS.sort hS) ?_
      | refine z_dq (mS.room hS) ?_
      | refine z_dq (mS.things hS) ?_
    refine z_bq (fun hl => ?_) (fun hl => ?_)
    · omega
    · have e : x = E := by omega
      subst e
      rw [fl_end u _ _ (by omega)] at h
      exact h
  | n + 1, x, u, hS, he, h1, h2, h => by
    refine run [(72, []), (104, [])] 40 ?_
    refine c_of hS hk hi (by omega) ?_
    refine c_of hS hk hi (by omega) ?_
    repeat first
      | refine z_gq (by first | omega | (simp [hI_sI, hI_sF, hI_sR, hI_nw, hI_ff, hI_fl, hI_cp]; try omega)) ?_
      | refine z_iq rfl (by first | omega | (simp [hI_sI, hI_sF, hI_sR, hI_nw, hI_ff, hI_fl, hI_cp]; try omega)) (by first | omega | (simp [hI_sI, hI_sF, hI_sR, hI_nw, hI_ff, hI_fl, hI_cp]; try omega)) ?_
      | refine z_dq (mS.now hS) ?_
      | refine z_dq (mS.floats hS) ?_
      | refine z_dq (mS.sizes hS) ?_
      | refine z_dq (mS.shut hS) ?_
      | refine z_dq (mS.past hS) ?_
      | refine z_dq (mS.deeds hS) ?_
      | refine z_dq (mS.images hS) ?_
      | refine z_dq (mS.imageShut hS) ?_
      | refine z_dq (mS.kept hS) ?_
      | refine z_dq (mS.owner hS) ?_
      | refine z_dq (mS.old hS) ?_
      | refine z_dq (mS.letters hS) ?_
      | refine z_dq (mS.toldSizes hS) ?_
      | refine z_dq (mS.sort hS) ?_
      | refine z_dq (mS.room hS) ?_
      | refine z_dq (mS.things hS) ?_
    refine z_bq (fun hl => ?_) (fun hl => by omega)
    repeat first
      | refine z_gq (by first | omega | (simp [hI_sI, hI_sF, hI_sR, hI_nw, hI_ff, hI_fl, hI_cp]; try omega)) ?_
      | refine z_iq rfl (by first | omega | (simp [hI_sI, hI_sF, hI_sR, hI_nw, hI_ff, hI_fl, hI_cp]; try omega)) (by first | omega | (simp [hI_sI, hI_sF, hI_sR, hI_nw, hI_ff, hI_fl, hI_cp]; try omega)) ?_
      | refine z_dq (mS.owner hS) ?_
    refine w_tells2 hk hi hE n (x + 1) _ hS he (by omega) (by omega) ?_
    rw [← fl_step u _ _ (by omega)] at h
    exact h
theorem w_tells3 {d : Nat} {Q : aQ} {k N : Int} (hk : 0 ≤ k ∧ k ≤ 3) (hN : N ≤ 12) {c s : Nat} : ∀ (r : List Sp) (i lo : Int) (u : aS) (w : aV), mS u → hI u 142 (86 * k + 84) = N → i + r.length = N → 0 ≤ i → (∀ (j : Nat) (p : Sp), r[j]? = some p → Fw (fun q => hI u 142 (86 * k + q)) (i + j) p) → SL lo r → 0 ≤ lo → (∀ u', fA (fun a => a = 149) u u' → nx u' = nx u → (∀ x, hI u' 149 x = if oR (en i r) x = -1 then hI u 149 x else oR (en i r) x) → Q none u') → wp (wpm (d + 1)) cd_X8_tells Q 55 [vR 139, vI k, vI i, w] [] u c s
  | [], i, lo, u, w, hS, he, h1, h2, hf, hl, hlo, h => by
    refine run [(55, []), (72, [])] 60 ?_
    refine c_many hS hk ?_
    simp at h1
    refine z_bq (fun hz => ?_) (fun hz => ?_)
    · omega
    · exact h u (fA_rfl _ u) rfl (fun x => by rw [if_pos (show oR (en i []) x = -1 from rfl)])
  | p :: r, i, lo, u, w, hS, he, h1, h2, hf, hl, hlo, h => by
    have hl1 := hl.1
    have eq : qe p = q3 p + q2 p := rfl
    simp at h1
    have f := hf 0 p rfl
    unfold Fw at f
    simp only [← Int.add_assoc] at f
    have f2 : hI u 142 (86 * k + 7 * i + 2) = q2 p := by
      have := f.2.2.1
      simpa using this
    have f3 : hI u 142 (86 * k + 7 * i + 3) = q3 p := by
      have := f.2.2.2.1
      simpa using this
    refine run [(55, []), (72, [])] 60 ?_
    refine c_many hS hk ?_
    refine z_bq (fun hz => ?_) (fun hz => by omega)
    refine c_of hS hk (by omega) (by omega) ?_
    refine w_tells2 (E := qe p) hk (by omega) (by omega) (q2 p).toNat _ u hS (by omega) (by omega) (by omega) ?_
    refine run [(55, []), (72, [])] 60 ?_
    repeat first
      | refine z_gq (by first | omega | (simp [hI_sI, hI_sF, hI_sR, hI_nw, hI_ff, hI_fl, hI_cp]; try omega)) ?_
      | refine z_iq rfl (by first | omega | (simp [hI_sI, hI_sF, hI_sR, hI_nw, hI_ff, hI_fl, hI_cp]; try omega)) (by first | omega | (simp [hI_sI, hI_sF, hI_sR, hI_nw, hI_ff, hI_fl, hI_cp]; try omega)) ?_
      | refine z_dq (mS.now hS) ?_
      | refine z_dq (mS.floats hS) ?_
      | refine z_dq (mS.sizes hS) ?_
      | refine z_dq (mS.shut hS) ?_
      | refine z_dq (mS.past hS) ?_
      | refine z_dq (mS.deeds hS) ?_
      | refine z_dq (mS.images hS) ?_
      | refine z_dq (mS.imageShut hS) ?_
      | refine z_dq (mS.kept hS) ?_
      | refine z_dq (mS.owner hS) ?_
      | refine z_dq (mS.old hS) ?_
      | refine z_dq (mS.letters hS) ?_
      | refine z_dq (mS.toldSizes hS) ?_
      | refine z_dq (mS.sort hS) ?_
      | refine z_dq (mS.room hS) ?_
      | refine z_dq (mS.things hS) ?_
    refine w_tells3 hk hN r (i + 1) (qe p) _ _ hS he (by omega) (by omega) (fun j q hq => ?_) hl.2 (by omega) (fun u' m1 m2 m3 => ?_)
    · have := hf (j + 1) q (by simpa using hq)
      have e : i + ((j + 1 : Nat) : Int) = i + 1 + (j : Int) := by omega
      rw [e] at this
      exact this
    · refine h u' (fA_tr (fA_fl u _ _ _ rfl) m1) m2 (fun x => ?_)
      rw [m3 x, hI_fl, f3]
      have ho : q3 p ≤ x ∧ x < qe p → oR (en (i + 1) r) x = -1 := fun z => oR_out (RS_en hl.2) z.2
      show _ = if (if q3 p ≤ x ∧ x < qe p then i else oR (en (i + 1) r) x) = -1 then _ else (if q3 p ≤ x ∧ x < qe p then i else oR (en (i + 1) r) x)
      by_cases hx : q3 p ≤ x ∧ x < qe p
      · rw [ho hx, if_pos rfl, if_pos ⟨rfl, hx⟩, if_pos hx, if_neg (by omega)]
      · rw [if_neg (show ¬ (149 = 149 ∧ q3 p ≤ x ∧ x < qe p) from fun z => hx z.2), if_neg hx]
theorem c_tells {d : Nat} {k : Int} {K : Tk} {u : aS} {Q : aQ} (hS : mS u) (hk : 0 ≤ k ∧ k ≤ 3) (hK : mTk u 142 (86 * k) K) (hV : vG K.1) (h : ∀ u', fA (fun a => a = 149 ∨ a = 150) u u' → nx u' = nx u → (∀ x, 0 ≤ x → x < 128 → hI u' 149 x = oR (en 0 K.1) x) → (∀ j, 0 ≤ j → j < 84 → hI u' 150 j = hI u 142 (86 * k + j)) → Q none u') : wpm (d + 2) M_X8_tells [vR 139, vI k] u Q := by
  have v := hV.2.1
  refine e_X8_tells rfl (run [(2, [])] 40 ?_)
  refine w_tells0 128 0 u hS (by omega) (by omega) ?_
  refine run [(24, [])] 40 ?_
  refine w_tells1 hk 84 0 _ hS (by omega) (by omega) ?_
  refine run [(55, [])] 40 ?_
  refine w_tells3 (N := K.1.length) hk (by omega) K.1 0 0 _ _ hS hK.1 (by omega) (by omega) (fun j p hp => ?_) hV.1 (by omega) (fun u' m1 m2 m3 => ?_)
  · have := mTk_f hK hp
    rw [Int.zero_add]
    exact this
  · refine h u' ?_ m2 (fun x x0 x1 => ?_) (fun j j0 j1 => ?_)
    · exact fA_tr (fA_fl u _ _ _ (Or.inl rfl)) (fA_tr (fA_cp _ _ _ _ _ (Or.inr rfl)) (fA_wk m1 (fun a => by omega)))
    · rw [m3 x]
      split
      · rename_i hz
        rw [hz]
        show (if 149 = 149 ∧ 0 ≤ x ∧ x < 128 then -1 else _) = _
        rw [if_pos ⟨rfl, x0, x1⟩]
      · rfl
    · rw [(m1.1 150 (by omega) j).1]
      show (if 150 = 150 ∧ 0 ≤ j ∧ j < 84 then hI u 142 (j + 86 * k) else _) = _
      rw [if_pos ⟨rfl, j0, j1⟩, Int.add_comm]
