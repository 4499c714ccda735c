/-! tracks: the model's frames, notes -/
theorem mS_f {u u' : aS} (h : ∀ i, hR u' 139 i = hR u 139 i) (hS : mS u) : mS u' := by
  unfold mS
  simp only [h]
  exact hS
theorem mSo_f {u u' : aS} {K : So} (h1 : hI u' 139 2 = hI u 139 2) (h2 : ∀ i, hI u' 141 i = hI u 141 i) (h3 : ∀ i, hF u' 140 i = hF u 140 i) (h : mSo u K) : mSo u' K := by
  unfold mSo
  simp only [h1, h2, h3]
  exact h
theorem mTx_f {u u' : aS} {K : Tx} (h1 : hI u' 139 13 = hI u 139 13) (h2 : ∀ i, hI u' 151 i = hI u 151 i) (h : mTx u K) : mTx u' K := by
  unfold mTx
  simp only [h1, h2]
  exact h
theorem mRk_f {u u' : aS} {K : Rk} (h1 : ∀ i, hI u' 153 i = hI u 153 i) (h2 : ∀ i, hI u' 154 i = hI u 154 i) (h3 : ∀ i, hI u' 155 i = hI u 155 i) (h : mRk u K) : mRk u' K := by
  unfold mRk
  simp only [h1, h2, h3]
  exact h
theorem mTk_e {u u' : aS} {a : Nat} {b : Int} {K : Tk} (h1 : ∀ i, hI u' a i = hI u a i) (h : mTk u a b K) : mTk u' a b K := by
  unfold mTk
  simp only [h1]
  exact h
theorem mTr_f {u u' : aS} {K : Tr} (h1 : ∀ i, hI u' 142 i = hI u 142 i) (h2 : ∀ i, hI u' 143 i = hI u 143 i) (h3 : ∀ i, hI u' 144 i = hI u 144 i) (h4 : ∀ i, hI u' 145 i = hI u 145 i) (h : mTr u K) : mTr u' K := by
  intro k k0 k1
  obtain ⟨a, b, c, d⟩ := h k k0 k1
  exact ⟨mTk_e h1 a, (h2 k).trans b, (h4 k).trans c, fun j t ht => mTk_e h3 (d j t ht)⟩
theorem mKp_f {u u' : aS} {K : Kp} (h1 : ∀ i, hI u' 146 i = hI u 146 i) (h2 : ∀ i, hI u' 147 i = hI u 147 i) (h3 : ∀ i, hI u' 148 i = hI u 148 i) (h : mKp u K) : mKp u' K := by
  intro k k0 k1
  obtain ⟨a, b⟩ := h k k0 k1
  exact ⟨(h3 k).trans a, fun e j j0 j1 => ⟨mTk_e h1 (b e j j0 j1).1, (h2 _).trans (b e j j0 j1).2⟩⟩
/-- owner, old, toldSizes aside -/
theorem mA_w {p : Nat → Prop} {u u' : aS} {A : Al} (hf : fA p u u') (hp : ∀ a, p a → a = 149 ∨ a = 150 ∨ a = 152) (h : mA u A) : mA u' A := by
  have e : ∀ a, ¬ (a = 149 ∨ a = 150 ∨ a = 152) → ∀ i, hI u' a i = hI u a i ∧ hF u' a i = hF u a i ∧ hR u' a i = hR u a i := fun a ha => hf.1 a (fun z => ha (hp a z))
  obtain ⟨h1, h2, h3, h4, h5, h6⟩ := h
  exact ⟨mS_f (fun i => (e 139 (by omega) i).2.2) h1, mSo_f (e 139 (by omega) _).1 (fun i => (e 141 (by omega) i).1) (fun i => (e 140 (by omega) i).2.1) h2, mTx_f (e 139 (by omega) _).1 (fun i => (e 151 (by omega) i).1) h3, mRk_f (fun i => (e 153 (by omega) i).1) (fun i => (e 154 (by omega) i).1) (fun i => (e 155 (by omega) i).1) h4, mTr_f (fun i => (e 142 (by omega) i).1) (fun i => (e 143 (by omega) i).1) (fun i => (e 144 (by omega) i).1) (fun i => (e 145 (by omega) i).1) h5, mKp_f (fun i => (e 146 (by omega) i).1) (fun i => (e 147 (by omega) i).1) (fun i => (e 148 (by omega) i).1) h6⟩
/-- the tracks alone have changed -/
theorem mA_tr {p : Nat → Prop} {u u' : aS} {A : Al} {T : Tr} (hf : fA p u u') (hp : ∀ a, p a → 142 ≤ a ∧ a ≤ 145) (h : mA u A) (hT : mTr u' T) : mA u' (A.1, A.2.1, A.2.2.1, T, A.2.2.2.2) := by
  have e : ∀ a, ¬ (142 ≤ a ∧ a ≤ 145) → ∀ i, hI u' a i = hI u a i ∧ hF u' a i = hF u a i ∧ hR u' a i = hR u a i := fun a ha => hf.1 a (fun z => ha (hp a z))
  obtain ⟨h1, h2, h3, h4, h5, h6⟩ := h
  exact ⟨mS_f (fun i => (e 139 (by omega) i).2.2) h1, mSo_f (e 139 (by omega) _).1 (fun i => (e 141 (by omega) i).1) (fun i => (e 140 (by omega) i).2.1) h2, mTx_f (e 139 (by omega) _).1 (fun i => (e 151 (by omega) i).1) h3, mRk_f (fun i => (e 153 (by omega) i).1) (fun i => (e 154 (by omega) i).1) (fun i => (e 155 (by omega) i).1) h4, hT, mKp_f (fun i => (e 146 (by omega) i).1) (fun i => (e 147 (by omega) i).1) (fun i => (e 148 (by omega) i).1) h6⟩
def vTk (t : Tk) : Prop := vG t.1 ∧ -16 ≤ t.2 ∧ t.2 ≤ 16
def vTr (T : Tr) : Prop := ∀ k, 0 ≤ k → k ≤ 3 → (T k).2.1.length ≤ 4 ∧ (∀ t, t ∈ (T k).1 :: (T k).2.1 → vTk t) ∧ ((T k).2.2 = 0 ∨ (T k).2.2 = 1)
theorem vTr.now {T : Tr} (h : vTr T) {k : Int} (h0 : 0 ≤ k) (h1 : k ≤ 3) : vTk (T k).1 := (h k h0 h1).2.1 _ (List.mem_cons_self ..)
theorem vTr.len {T : Tr} (h : vTr T) {k : Int} (h0 : 0 ≤ k) (h1 : k ≤ 3) : (T k).1.1.length ≤ 12 := (h.now h0 h1).1.2.1
theorem getT_mem {l : List Tk} {j : Nat} {t : Tk} (h : l[j]? = some t) : t ∈ l ∧ j < l.length := by
  have hj : j < l.length := by
    apply Classical.byContradiction
    intro hn
    rw [List.getElem?_eq_none (by omega)] at h
    cases h
  refine ⟨?_, hj⟩
  rw [List.getElem?_eq_getElem hj] at h
  have : l[j] = t := by simpa using h
  exact this ▸ List.getElem_mem hj
theorem mTr_up {u u' : aS} {T : Tr} {k : Int} {v : Tk × List Tk × Int} (hT : mTr u T) (hV : vTr T) (h142 : ∀ j, ¬ (86 * k ≤ j ∧ j < 86 * k + 86) → hI u' 142 j = hI u 142 j) (h143 : ∀ j, ¬ j = k → hI u' 143 j = hI u 143 j) (h145 : ∀ j, ¬ j = k → hI u' 145 j = hI u 145 j) (h144 : ∀ j, ¬ (344 * k ≤ j ∧ j < 344 * k + 344) → hI u' 144 j = hI u 144 j) (hn : mTk u' 142 (86 * k) v.1) (hs : hI u' 143 k = v.2.2) (hd : hI u' 145 k = v.2.1.length) (hp : ∀ (j : Nat) (t : Tk), v.2.1[j]? = some t → mTk u' 144 (344 * k + 86 * (v.2.1.length - 1 - j)) t) : mTr u' (upT T k v) := by
  intro j j0 j1
  by_cases e : j = k
  · subst e
    unfold upT
    rw [if_pos rfl]
    exact ⟨hn, hs, hd, hp⟩
  · unfold upT
    rw [if_neg e]
    obtain ⟨a, b, c, d⟩ := hT j j0 j1
    have v := hV j j0 j1
    refine ⟨mTk_cp (hV.len j0 j1) (fun q q0 q1 => h142 _ (by omega)) a, (h143 j e).trans b, (h145 j e).trans c, fun i t ht => ?_⟩
    have g := getT_mem ht
    refine mTk_cp (v.2.1 t (List.mem_cons_of_mem _ g.1)).1.2.1 (fun q q0 q1 => h144 _ ?_) (d i t ht)
    have := v.1
    omega
theorem hst_len (t : Tk) (h : List Tk) : (hst t h).length = min 4 (h.length + 1) := by
  unfold hst
  simp
  omega
theorem hst_0 (t : Tk) (h : List Tk) : (hst t h)[0]? = some t := rfl
theorem hst_s {t x : Tk} {h : List Tk} {j : Nat} (hj : (hst t h)[j + 1]? = some x) : h[j]? = some x ∧ j ≤ 2 := by
  unfold hst at hj
  rw [List.getElem?_take] at hj
  split at hj
  · exact ⟨by simpa using hj, by omega⟩
  · cases hj
theorem c_notes {d : Nat} {k : Int} {u : aS} {Q : aQ} {A : Al} (hA : mA u A) (hV : vTr A.2.2.2.1) (hk : 0 ≤ k ∧ k ≤ 3) (h : ∀ u', mA u' (A.1, A.2.1, A.2.2.1, nwT A.2.2.2.1 k (A.2.2.2.1 k).1, A.2.2.2.2) → fA (fun a => a = 144 ∨ a = 145) u u' → nx u' = nx u → Q none u') : wpm (d + 1) M_X8_notes [vR 139, vI k] u Q := by
  have hS := hA.1
  obtain ⟨a1, a2, a3, a4⟩ := hA.2.2.2.2.1 k hk.1 hk.2
  obtain ⟨v1, v2, v3⟩ := hV k hk.1 hk.2
  have vn : (A.2.2.2.1 k).1.1.length ≤ 12 := hV.len hk.1 hk.2
  have hl := hst_len (A.2.2.2.1 k).1 (A.2.2.2.1 k).2.1
  refine e_X8_notes rfl (run [(18, []), (62, [])] 60 ?_)
  repeat first
    | refine z_gq (by first | omega | (simp [hI_sI, hI_sF, hI_sR, hI_nw, hI_ff, hI_fl, hI_cp]; try omega)) ?_
    | refine z_iq rfl (by first | omega | (simp [hI_sI, hI_sF, hI_sR, hI_nw, hI_ff, hI_fl, hI_cp]; try omega)) (by first | omega | (simp [hI_sI, hI_sF, hI_sR, hI_nw, hI_ff, hI_fl, hI_cp]; try omega)) ?_
    | refine z_dq (mS.deeds hS) ?_
  refine z_bq (fun hz => ?_) (fun hz => ?_)
  · refine w_notes1 hk 258 0 u hS (by omega) (by omega) ?_
    refine run [(62, [])] 60 ?_
    repeat first
      | refine z_gq (by first | omega | (simp [hI_sI, hI_sF, hI_sR, hI_nw, hI_ff, hI_fl, hI_cp]; try omega)) ?_
      | refine z_iq rfl (by first | omega | (simp [hI_sI, hI_sF, hI_sR, hI_nw, hI_ff, hI_fl, hI_cp]; try omega)) (by first | omega | (simp [hI_sI, hI_sF, hI_sR, hI_nw, hI_ff, hI_fl, hI_cp]; try omega)) ?_
      | refine z_dq (mS.deeds hS) ?_
    refine w_notes2 (D := 3) hk (by omega) 86 0 _ hS (by simp [hI_sI, hI_cp]; omega) (by omega) (by omega) ?_
    refine run [] 60 ?_
    repeat first
      | refine z_gq (by first | omega | (simp [hI_sI, hI_sF, hI_sR, hI_nw, hI_ff, hI_fl, hI_cp]; try omega)) ?_
      | refine z_iq rfl (by first | omega | (simp [hI_sI, hI_sF, hI_sR, hI_nw, hI_ff, hI_fl, hI_cp]; try omega)) (by first | omega | (simp [hI_sI, hI_sF, hI_sR, hI_nw, hI_ff, hI_fl, hI_cp]; try omega)) ?_
      | refine z_dq (mS.deeds hS) ?_
    refine h _ ?_ ?_ rfl
    · refine mA_tr (p := fun a => a = 144 ∨ a = 145) (u := u) ?_ (fun a => by omega) hA (mTr_up (u := u) hA.2.2.2.2.1 hV (fun j hj => rfl) (fun j hj => rfl) (fun j hj => ?_) (fun j hj => ?_) a1 a2 ?_ (fun j t ht => ?_))
      · exact fA_tr (fA_cp u _ _ _ _ (by omega)) (fA_tr (fA_sI _ _ _ (by omega)) (fA_tr (fA_cp _ _ _ _ _ (by omega)) (fA_sI _ _ _ (by omega))))
      · simp [hI_sI, hI_cp, hj]
      · simp only [hI_sI, hI_cp]
        rw [if_neg (by omega), if_neg (by omega), if_neg (by omega), if_neg (by omega)]
      · simp [hI_sI, hI_cp, hl]
        omega
      · have rd : ∀ q, 0 ≤ q → q < 344 → hI (sI (cp (sI (cp u 144 (344 * k + 0) (344 * k + 258) 144 86) 145 k (hI (cp u 144 (344 * k + 0) (344 * k + 258) 144 86) 145 k - 1)) 144 (344 * k + 86 * 3 + 0) (344 * k + 86 * 3 + 86) 142 (86 * k - (344 * k + 86 * 3))) 145 k (hI (cp (sI (cp u 144 (344 * k + 0) (344 * k + 258) 144 86) 145 k (hI (cp u 144 (344 * k + 0) (344 * k + 258) 144 86) 145 k - 1)) 144 (344 * k + 86 * 3 + 0) (344 * k + 86 * 3 + 86) 142 (86 * k - (344 * k + 86 * 3))) 145 k + 1)) 144 (344 * k + q) = if 258 ≤ q then hI u 142 (86 * k + (q - 258)) else hI u 144 (344 * k + (q + 86)) := by
          intro q q0 q1
          rw [hI_sI, if_neg (by omega), hI_cp]
          by_cases hq : 258 ≤ q
          · rw [if_pos (by omega), if_pos hq, hI_sI, if_neg (by omega), hI_cp, if_neg (by omega), show 344 * k + q + (86 * k - (344 * k + 86 * 3)) = 86 * k + (q - 258) by omega]
          · rw [if_neg (by omega), if_neg hq, hI_sI, if_neg (by omega), hI_cp, if_pos (by omega), Int.add_assoc]
        have hl4 : (hst (A.2.2.2.1 k).1 (A.2.2.2.1 k).2.1).length = 4 := by omega
        rw [hl4]
        cases j with
        | zero =>
          rw [hst_0] at ht
          have e1 : (A.2.2.2.1 k).1 = t := by simpa using ht
          subst e1
          refine mTk_cp (u := u) (a := 142) (b := 86 * k) vn (fun q q0 q1 => ?_) a1
          have := rd (258 + q) (by omega) (by omega)
          rw [if_pos (by omega), show 258 + q - 258 = q by omega, ← Int.add_assoc] at this
          rw [show 344 * k + 86 * (((4 : Nat) : Int) - 1 - ((0 : Nat) : Int)) + q = 344 * k + 258 + q by omega]
          exact this
        | succ j =>
          obtain ⟨g1, g2⟩ := hst_s ht
          have gm := getT_mem g1
          refine mTk_cp (u := u) (a := 144) (b := 344 * k + 86 * ((A.2.2.2.1 k).2.1.length - 1 - j)) (v2 t (List.mem_cons_of_mem _ gm.1)).1.2.1 (fun q q0 q1 => ?_) (a4 j t g1)
          have := rd (86 * (2 - j) + q) (by omega) (by omega)
          rw [if_neg (by omega)] at this
          rw [show 344 * k + 86 * (((4 : Nat) : Int) - 1 - ((j + 1 : Nat) : Int)) + q = 344 * k + (86 * (2 - j) + q) by omega, show 344 * k + 86 * (((A.2.2.2.1 k).2.1.length : Int) - 1 - j) + q = 344 * k + (86 * (2 - j) + q + 86) by omega]
          exact this
    · exact fA_tr (fA_cp u _ _ _ _ (by omega)) (fA_tr (fA_sI _ _ _ (by omega)) (fA_tr (fA_cp _ _ _ _ _ (by omega)) (fA_sI _ _ _ (by omega))))
  · refine w_notes2 (D := hI u 145 k) hk (by omega) 86 0 u hS rfl (by omega) (by omega) ?_
    refine run [] 60 ?_
    repeat first
      | refine z_gq (by first | omega | (simp [hI_sI, hI_sF, hI_sR, hI_nw, hI_ff, hI_fl, hI_cp]; try omega)) ?_
      | refine z_iq rfl (by first | omega | (simp [hI_sI, hI_sF, hI_sR, hI_nw, hI_ff, hI_fl, hI_cp]; try omega)) (by first | omega | (simp [hI_sI, hI_sF, hI_sR, hI_nw, hI_ff, hI_fl, hI_cp]; try omega)) ?_
      | refine z_dq (mS.deeds hS) ?_
    refine h _ ?_ ?_ rfl
    · refine mA_tr (p := fun a => a = 144 ∨ a = 145) (u := u) ?_ (fun a => by omega) hA (mTr_up (u := u) hA.2.2.2.2.1 hV (fun j hj => rfl) (fun j hj => rfl) (fun j hj => ?_) (fun j hj => ?_) a1 a2 ?_ (fun j t ht => ?_))
      · exact fA_tr (fA_cp u _ _ _ _ (by omega)) (fA_sI _ _ _ (by omega))
      · simp [hI_sI, hI_cp, hj]
      · simp only [hI_sI, hI_cp]
        rw [if_neg (by omega), if_neg (by omega)]
      · simp [hI_sI, hI_cp, hl]
        omega
      · have hlD : ((hst (A.2.2.2.1 k).1 (A.2.2.2.1 k).2.1).length : Int) = hI u 145 k + 1 := by omega
        rw [hlD]
        have rd : ∀ q, hI (sI (cp u 144 (344 * k + 86 * hI u 145 k + 0) (344 * k + 86 * hI u 145 k + 86) 142 (86 * k - (344 * k + 86 * hI u 145 k))) 145 k (hI (cp u 144 (344 * k + 86 * hI u 145 k + 0) (344 * k + 86 * hI u 145 k + 86) 142 (86 * k - (344 * k + 86 * hI u 145 k))) 145 k + 1)) 144 q = if 344 * k + 86 * hI u 145 k ≤ q ∧ q < 344 * k + 86 * hI u 145 k + 86 then hI u 142 (q + (86 * k - (344 * k + 86 * hI u 145 k))) else hI u 144 q := by
          intro q
          rw [hI_sI, if_neg (by omega), hI_cp]
          by_cases hq : 344 * k + 86 * hI u 145 k ≤ q ∧ q < 344 * k + 86 * hI u 145 k + 86
          · rw [if_pos (by omega), if_pos hq]
          · rw [if_neg (by omega), if_neg hq]
        cases j with
        | zero =>
          rw [hst_0] at ht
          have e1 : (A.2.2.2.1 k).1 = t := by simpa using ht
          subst e1
          refine mTk_cp (u := u) (a := 142) (b := 86 * k) vn (fun q q0 q1 => ?_) a1
          rw [rd, if_pos (by omega), show 344 * k + 86 * (hI u 145 k + 1 - 1 - ((0 : Nat) : Int)) + q + (86 * k - (344 * k + 86 * hI u 145 k)) = 86 * k + q by omega]
        | succ j =>
          obtain ⟨g1, g2⟩ := hst_s ht
          have gm := getT_mem g1
          refine mTk_cp (u := u) (a := 144) (b := 344 * k + 86 * ((A.2.2.2.1 k).2.1.length - 1 - j)) (v2 t (List.mem_cons_of_mem _ gm.1)).1.2.1 (fun q q0 q1 => ?_) (a4 j t g1)
          rw [rd, if_neg (by omega), show 344 * k + 86 * (hI u 145 k + 1 - 1 - ((j + 1 : Nat) : Int)) + q = 344 * k + 86 * (((A.2.2.2.1 k).2.1.length : Int) - 1 - j) + q by omega]
    · exact fA_tr (fA_cp u _ _ _ _ (by omega)) (fA_sI _ _ _ (by omega))
