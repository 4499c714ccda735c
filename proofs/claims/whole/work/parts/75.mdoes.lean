/-! the model does clauses -/
/-- the first's past, the second's now -/
def hK (T T' : Tr) : Tr := fun k => ((T' k).1, (T k).2.1, (T' k).2.2)
theorem hK_self (T : Tr) : hK T T = T := rfl
theorem hK_nw (T : Tr) (k : Int) (x : Tk) : hK T (nwT T k x) = upT T k (x, (T k).2) := by
  funext j
  unfold hK nwT upT
  by_cases e : j = k
  · subst e
    simp
  · simp [e]
def empT (T : Tr) : Tr := fun k => if 0 ≤ k ∧ k ≤ 3 then (([], 0), (T k).2.1, 0) else T k
theorem hK_emp (T : Tr) : hK T (empT T) = empT T := by
  funext j
  unfold hK empT
  by_cases e : 0 ≤ j ∧ j ≤ 3
  · simp [e]
  · simp [e]
def shT (T : Tr) (k : Int) : Tr := upT T k ((T k).1, (T k).2.1, 1)
theorem hK_sh (T : Tr) (k : Int) : hK T (shT T k) = shT T k := by
  funext j
  unfold hK shT upT
  by_cases e : j = k
  · subst e
    simp
  · simp [e]
/-- only sounds, now, shut, owner, old have changed -/
def fD (u u' : aS) : Prop := fA (fun a => a = 139 ∨ 140 ≤ a ∧ a ≤ 143 ∨ a = 149 ∨ a = 150) u u' ∧ (∀ i, ¬ i = 2 → hI u' 139 i = hI u 139 i) ∧ nx u' = nx u
theorem fD_of {u u' : aS} {p : Nat → Prop} (h : fA p u u') (hp : ∀ a, p a → 140 ≤ a ∧ a ≤ 143 ∨ a = 149 ∨ a = 150) (hn : nx u' = nx u) : fD u u' := ⟨fA_wk h (fun a ha => Or.inr (hp a ha)), fun i _ => (h.1 139 (fun z => by have := hp _ z; omega) i).1, hn⟩
theorem fD_rfl (u : aS) : fD u u := ⟨fA_rfl _ u, fun _ _ => rfl, rfl⟩
theorem fD_M {u u' : aS} (h : fD u u') : fM u u' := fM_of h.1 (fun a => by omega) h.2.2
theorem mP_re {u0 u u' : aS} {X : Tx} {t : Tok} {T : Told} {p : Int} (h : mP u0 u X t T p) (hf : fD u u') (hS : mS u') : mP u' u' X t T p := by
  obtain ⟨p1, p2, p3, p4, p5, p6, p7, p8⟩ := h
  have e : ∀ i, ¬ i = 2 → hI u' 139 i = hI u 139 i := hf.2.1
  exact ⟨hS, mTx_f (e 13 (by omega)) (fun i => (hf.1.1 151 (by omega) i).1) p2, p3, ⟨(e 14 (by omega)).trans p4.1, (e 15 (by omega)).trans p4.2.1, (e 16 (by omega)).trans p4.2.2.1, (e 17 (by omega)).trans p4.2.2.2⟩, (e 20 (by omega)).trans p5, fun s s0 s1 => ((hf.1.1 152 (by omega) s).1).trans (p6 s s0 s1), (e 18 (by omega)).trans p7, fW_rfl u'⟩
theorem d_put {d : Nat} {k s f m t : Int} {u : aS} {Q : aQ} {A : Al} (hA : mA u A) (hZ : vSz A.1) (hV : vTr A.2.2.2.1) (hk : 0 ≤ k ∧ k ≤ 3) (hs : 0 ≤ s ∧ s < A.1.1) (hf : 0 ≤ f ∧ f < A.1.2.1 s) (hm : 1 ≤ m ∧ m ≤ A.1.2.1 s - f) (ht : 0 ≤ t ∧ t ≤ 128 - m) (h : ∀ u', mA u' (A.1, A.2.1, A.2.2.1, hK A.2.2.2.1 (oPut A.1 A.2.2.2.1 k s f m t).2, A.2.2.2.2) → fD u u' → Q none u') : wp (wpm (d + 3)) cd_X8_toldPut Q 67 [vR 139, vI 1, vI k, vI s, vI f, vI m, vI t] [] u 0 0 := by
  have hS := hA.1
  have v := hZ.1
  have vs := hZ.2 s hs.1 (by omega)
  obtain ⟨k0, k1⟩ := hk
  obtain ⟨t0, t1⟩ := ht
  obtain ⟨m0, mb⟩ := hm
  unfold oPut at h
  rw [if_neg (by omega), if_neg (by omega)] at h
  obtain ⟨a1, a2, a3, a4⟩ := hA.2.2.2.2.1 k k0 k1
  have vk := hV.now k0 k1
  refine run [] 100 ?_
  refine c_tells hS ⟨k0, k1⟩ a1 vk.1 (fun u1 m1 m2 m3 m4 => ?_)
  have hA1 := mA_w m1 (fun a => by omega) hA
  have hS1 := hA1.1
  refine c_brings hS1 t0 (by omega) (by omega) ?_
  refine c_fades hS1 ?_
  have hP : Rp (hI (sI (sI (sI (fl (sI (sI (sI (sI u1 150 84 s) 150 85 f) 150 86 m) 150 87 t) 149 t (t + m) 12) 150 88 8) 150 89 0) 150 90 0) 149) (-1) (layR (A.2.2.2.1 k).1.1 (s, f, m, t, 8, 0, 0) (-1)) := by
    refine lay_Rp vk.1.1 t0 m0 (by show t + m ≤ 128; omega) vk.1.2.1 (fun x x0 x1 => ?_)
    show (if 149 = 149 ∧ t ≤ x ∧ x < t + m then 12 else hI u1 149 x) = if t ≤ x ∧ x < t + m then 12 else _
    rw [m3 x x0 x1]
    by_cases hx : t ≤ x ∧ x < t + m
    · rw [if_pos ⟨rfl, hx⟩, if_pos hx]
    · rw [if_neg (fun z => hx z.2), if_neg hx]
      split
      · assumption
      · rfl
  have hM : ∀ e, e ∈ layR (A.2.2.2.1 k).1.1 (s, f, m, t, 8, 0, 0) (-1) → Mq (hI (sI (sI (sI (fl (sI (sI (sI (sI u1 150 84 s) 150 85 f) 150 86 m) 150 87 t) 149 t (t + m) 12) 150 88 8) 150 89 0) 150 90 0) 150) e ∧ 0 ≤ e.1 ∧ e.1 ≤ 12 := by
    intro e he
    rcases ins_mem.mp he with z | z
    · subst z
      refine ⟨Mq_same ?_ ?_, by show 0 ≤ (12 : Int); omega, by show (12 : Int) ≤ 12; omega⟩
      · simp [Fw, hI_sI, hI_fl, q0, q1, q2, q3, q4, q5, q6]
      · simp [vP, q0, q1, q2, q3, q4, q5, q6]
        omega
    · refine ⟨Mq_rs vk.1.2.2 (Fw_old a1 vk.1.2.1 (fun j j0 j1 => ?_)) e z, ?_⟩
      · rw [← m4 j j0 j1]
        simp [hI_sI, hI_fl]
        omega
      · obtain ⟨c, f1, f2, f3, f4⟩ := rs_mem z
        have := en_mem f1
        have := vk.1.2.1
        omega
  refine c_runs hS1 ?_
  rw [Rp_n hP]
  unfold lyT at h
  have hf3 : fA (fun a => a = 149 ∨ a = 150) u1 (sI (sI (sI (fl (sI (sI (sI (sI u1 150 84 s) 150 85 f) 150 86 m) 150 87 t) 149 t (t + m) 12) 150 88 8) 150 89 0) 150 90 0) := fA_tr (fA_sI _ _ _ (by omega)) (fA_tr (fA_sI _ _ _ (by omega)) (fA_tr (fA_sI _ _ _ (by omega)) (fA_tr (fA_sI _ _ _ (by omega)) (fA_tr (fA_fl _ _ _ _ (by omega)) (fA_tr (fA_sI _ _ _ (by omega)) (fA_tr (fA_sI _ _ _ (by omega)) (fA_sI _ _ _ (by omega))))))))
  have hA4 := mA_w hf3 (fun a => by omega) hA1
  refine z_bq (fun hz => ?_) (fun hz => ?_)
  · rw [if_pos (by omega)] at h
    exact h _ hA4 (fD_of (p := fun a => a = 149 ∨ a = 150) (fA_tr m1 hf3) (fun a => by omega) m2)
  · rw [if_neg (by omega)] at h
    simp only [] at h
    rw [hK_nw] at h
    refine c_lays hS1 ⟨k0, k1⟩ hP (by omega) hM (fun u5 p1 p2 p3 p4 => ?_)
    refine h u5 (mA_lay hA4 hV ⟨k0, k1⟩ p1 (fun j hj => p3 j (by omega)) (p4 _ (hA4.2.2.2.2.1 k k0 k1).1.2.1)) (fD_of (p := fun a => a = 142 ∨ a = 149 ∨ a = 150) (fA_tr (fA_wk m1 (fun a => by omega)) (fA_tr (fA_wk hf3 (fun a => by omega)) (fA_wk p1 (fun a => by omega)))) (fun a => by omega) (p2.trans m2))
theorem mA_set1 {u u' : aS} {A : Al} {k i : Int} {p : Sp} (hA : mA u A) (hV : vTr A.2.2.2.1) (hk : 0 ≤ k ∧ k ≤ 3) (hi : 0 ≤ i ∧ i < (A.2.2.2.1 k).1.1.length) (hf : fA (fun a => a = 142) u u') (h : ∀ j, ¬ (86 * k + 7 * i ≤ j ∧ j < 86 * k + 7 * i + 7) → hI u' 142 j = hI u 142 j) (hp : Fw (fun q => hI u' 142 (86 * k + q)) i p) : mA u' (A.1, A.2.1, A.2.2.1, upT A.2.2.2.1 k ((stL (A.2.2.2.1 k).1.1 i p, (A.2.2.2.1 k).1.2), (A.2.2.2.1 k).2), A.2.2.2.2) := by
  obtain ⟨b1, b2, b3, b4⟩ := hA.2.2.2.2.1 k hk.1 hk.2
  have vl := hV.len hk.1 hk.2
  exact mA_lay hA hV hk hf (fun j hj => h j (by omega)) (mTk_set (p := p) b1 vl hi.1 hi.2 (fun q q0 q1 hq => h _ (by omega)) hp)
theorem d_fade {d : Nat} {k i a b : Int} {u : aS} {Q : aQ} {A : Al} (hA : mA u A) (hV : vTr A.2.2.2.1) (ha : 0 ≤ a ∧ a ≤ 64) (hb : 0 ≤ b ∧ b ≤ 64) (h : ∀ u', mA u' (A.1, A.2.1, A.2.2.1, hK A.2.2.2.1 (oFade A.2.2.2.1 k i a b).2, A.2.2.2.2) → fD u u' → Q none u') : wp (wpm (d + 3)) cd_X8_toldFade Q 55 [vR 139, vI 1, vI 0, vI k, vI i, vI a, vI b] [] u 0 0 := by
  have hS := hA.1
  unfold oFade at h
  have hm : 0 ≤ k → k ≤ 3 → hI u 142 (86 * k + 84) = (A.2.2.2.1 k).1.1.length ∧ (A.2.2.2.1 k).1.1.length ≤ 12 := fun k0 k1 => ⟨(hA.2.2.2.2.1 k k0 k1).1.1, hV.len k0 k1⟩
  have fin : wp (wpm (d + 3)) cd_X8_toldFade Q 83 [vR 139, vI 1, vI 0, vI k, vI i, vI a, vI b] [] u 0 0 := by
    refine run [] 100 ?_
    refine c_isSpan hS (fun k0 k1 => by have := hm k0 k1; omega) (fun k0 k1 i0 i1 => ?_) (fun hn => ?_)
    · obtain ⟨e1, e2⟩ := hm k0 k1
      rw [if_neg (by omega)] at h
      obtain ⟨c1, c2, c3, c4⟩ := hA.2.2.2.2.1 k k0 k1
      have vk := hV.now k0 k1
      obtain ⟨s0, s1, s2, s3, s4, s5, s6⟩ := mTk_sp c1 i0 (by omega)
      have hi : 0 ≤ i ∧ i ≤ 11 := by omega
      repeat first
        | refine z_gq (by first | omega | (simp [hI_sI, hI_sF, hI_sR, hI_nw, hI_ff, hI_fl, hI_cp]; try omega)) ?_
        | refine z_iq rfl (by first | omega | (simp [hI_sI, hI_sF, hI_sR, hI_nw, hI_ff, hI_fl, hI_cp]; try omega)) (by first | omega | (simp [hI_sI, hI_sF, hI_sR, hI_nw, hI_ff, hI_fl, hI_cp]; try omega)) ?_
      refine c_of hS ⟨k0, k1⟩ hi (by omega) ?_
      refine z_bq (fun hc => ?_) (fun hc => ?_)
      · rw [if_pos (by omega)] at h
        exact h u hA (fD_rfl u)
      · rw [if_neg (by omega)] at h
        simp only [] at h
        rw [hK_nw] at h
        refine c_sets hS ⟨k0, k1⟩ hi (by omega) ?_
        refine c_sets hS ⟨k0, k1⟩ hi (by omega) ?_
        have hf : fA (fun a => a = 142) u (sI (sI u 142 (86 * k + 7 * i + 5) a) 142 (86 * k + 7 * i + 6) b) := fA_tr (fA_sI _ _ _ rfl) (fA_sI _ _ _ rfl)
        refine h _ (mA_set1 hA hV ⟨k0, k1⟩ ⟨i0, by omega⟩ hf (fun j hj => ?_) (Fw_set ?_ ?_ ?_ ?_ ?_ ?_ ?_)) (fD_of hf (fun a => by omega) rfl)
        · rw [hI_sI, if_neg (by omega), hI_sI, if_neg (by omega)]
        · rw [hI_sI, if_neg (by omega), hI_sI, if_neg (by omega)]
          exact s0
        · rw [hI_sI, if_neg (by omega), hI_sI, if_neg (by omega)]
          exact s1
        · rw [hI_sI, if_neg (by omega), hI_sI, if_neg (by omega)]
          exact s2
        · rw [hI_sI, if_neg (by omega), hI_sI, if_neg (by omega)]
          exact s3
        · rw [hI_sI, if_neg (by omega), hI_sI, if_neg (by omega)]
          exact s4
        · rw [hI_sI, if_neg (by omega), hI_sI, if_pos ⟨rfl, rfl⟩]
          rfl
        · rw [hI_sI, if_pos ⟨rfl, rfl⟩]
          rfl
    · rw [if_pos (by intro z; exact hn ⟨z.1, z.2.1, by have := hm z.1.1 z.1.2; omega⟩)] at h
      exact h u hA (fD_rfl u)
  refine run [(83, [])] 100 ?_
  exact c_isSpan hS (fun k0 k1 => by have := hm k0 k1; omega) (fun k0 k1 i0 i1 => fin) (fun hn => fin)
theorem d_gain {d : Nat} {k i a b : Int} {u : aS} {Q : aQ} {A : Al} (hA : mA u A) (hV : vTr A.2.2.2.1) (ha : 0 ≤ a ∧ a ≤ 16) (h : ∀ u', mA u' (A.1, A.2.1, A.2.2.1, hK A.2.2.2.1 (oGain A.2.2.2.1 k i a).2, A.2.2.2.2) → fD u u' → Q none u') : wp (wpm (d + 3)) cd_X8_toldFade Q 55 [vR 139, vI 1, vI 1, vI k, vI i, vI a, vI b] [] u 0 0 := by
  have hS := hA.1
  unfold oGain at h
  have hm : 0 ≤ k → k ≤ 3 → hI u 142 (86 * k + 84) = (A.2.2.2.1 k).1.1.length ∧ (A.2.2.2.1 k).1.1.length ≤ 12 := fun k0 k1 => ⟨(hA.2.2.2.2.1 k k0 k1).1.1, hV.len k0 k1⟩
  have fin : ∀ u', mS u' → (0 ≤ k → k ≤ 3 → hI u' 142 (86 * k + 84) = hI u 142 (86 * k + 84)) → Q none u' → wp (wpm (d + 3)) cd_X8_toldFade Q 83 [vR 139, vI 1, vI 1, vI k, vI i, vI a, vI b] [] u' 0 0 := by
    intro u' hS' he q
    refine run [] 100 ?_
    exact c_isSpan hS' (fun k0 k1 => by have := hm k0 k1; have := he k0 k1; omega) (fun k0 k1 i0 i1 => q) (fun hn => q)
  refine run [(83, [])] 100 ?_
  refine c_isSpan hS (fun k0 k1 => by have := hm k0 k1; omega) (fun k0 k1 i0 i1 => ?_) (fun hn => ?_)
  · obtain ⟨e1, e2⟩ := hm k0 k1
    rw [if_neg (by omega), if_neg (by omega)] at h
    simp only [] at h
    rw [hK_nw] at h
    obtain ⟨c1, c2, c3, c4⟩ := hA.2.2.2.2.1 k k0 k1
    obtain ⟨s0, s1, s2, s3, s4, s5, s6⟩ := mTk_sp c1 i0 (by omega)
    have hi : 0 ≤ i ∧ i ≤ 11 := by omega
    refine c_sets hS ⟨k0, k1⟩ hi (by omega) ?_
    have hf : fA (fun a => a = 142) u (sI u 142 (86 * k + 7 * i + 4) a) := fA_sI _ _ _ rfl
    have hA2 := mA_set1 (p := gnd (spA (A.2.2.2.1 k).1.1 i) a) hA hV ⟨k0, k1⟩ ⟨i0, by omega⟩ hf (fun j hj => by rw [hI_sI, if_neg (by omega)]) (Fw_set (by rw [hI_sI, if_neg (by omega)]; exact s0) (by rw [hI_sI, if_neg (by omega)]; exact s1) (by rw [hI_sI, if_neg (by omega)]; exact s2) (by rw [hI_sI, if_neg (by omega)]; exact s3) (by rw [hI_sI, if_pos ⟨rfl, rfl⟩]; rfl) (by rw [hI_sI, if_neg (by omega)]; exact s5) (by rw [hI_sI, if_neg (by omega)]; exact s6))
    refine fin _ hA2.1 (fun _ _ => ?_) (h _ hA2 (fD_of hf (fun a => by omega) rfl))
    rw [hI_sI, if_neg (by omega)]
  · rw [if_pos (by intro z; exact hn ⟨z.1, z.2.1, by have := hm z.1.1 z.1.2; omega⟩)] at h
    exact fin u hS (fun _ _ => rfl) (h u hA (fD_rfl u))
theorem d_shift {d : Nat} {k b n v : Int} {u : aS} {Q : aQ} {A : Al} (hA : mA u A) (hV : vTr A.2.2.2.1) (hk : 0 ≤ k ∧ k ≤ 3) (hn : 0 ≤ n ∧ n ≤ 16) (hb : b = 1 ∧ v = -n ∨ b = 0 ∧ v = n) (h : ∀ u', mA u' (A.1, A.2.1, A.2.2.1, hK A.2.2.2.1 (oShift A.2.2.2.1 k v).2, A.2.2.2.2) → fD u u' → Q none u') : wp (wpm (d + 3)) cd_X8_toldShift Q 58 [vR 139, vI 1, vI k, vI b, vI n] [] u 0 0 := by
  have hS := hA.1
  unfold oShift at h
  rw [if_neg (by omega), if_neg (by omega)] at h
  simp only [] at h
  rw [hK_nw] at h
  obtain ⟨c1, c2, c3, c4⟩ := hA.2.2.2.2.1 k hk.1 hk.2
  have vl := hV.len hk.1 hk.2
  have fin : Q none (sI u 142 (86 * k + 85) v) := by
    have hf : fA (fun a => a = 142) u (sI u 142 (86 * k + 85) v) := fA_sI _ _ _ rfl
    refine h _ (mA_lay hA hV hk hf (fun j hj => by rw [hI_sI, if_neg (by omega)]) (mTk_m ?_ ?_ (fun j p hp => ?_))) (fD_of hf (fun a => by omega) rfl)
    · rw [hI_sI, if_neg (by omega)]
      exact c1.1
    · rw [hI_sI, if_pos ⟨rfl, rfl⟩]
    · have hp' : (A.2.2.2.1 k).1.1[j]? = some p := hp
      have hj := get_lt hp'
      have f := mTk_f c1 hp'
      unfold Fw at f ⊢
      simp only [hI_sI] at f ⊢
      rw [if_neg (by omega), if_neg (by omega), if_neg (by omega), if_neg (by omega), if_neg (by omega), if_neg (by omega), if_neg (by omega)]
      exact f
  rcases hb with ⟨e, ev⟩ | ⟨e, ev⟩
  · subst e
    subst ev
    refine run [] 100 ?_
    repeat first
      | refine z_gq (by first | omega | (simp [hI_sI, hI_sF, hI_sR, hI_nw, hI_ff, hI_fl, hI_cp]; try omega)) ?_
      | refine z_iq rfl (by first | omega | (simp [hI_sI, hI_sF, hI_sR, hI_nw, hI_ff, hI_fl, hI_cp]; try omega)) (by first | omega | (simp [hI_sI, hI_sF, hI_sR, hI_nw, hI_ff, hI_fl, hI_cp]; try omega)) ?_
      | refine z_dq (mS.now hS) ?_
    exact fin
  · subst e
    subst ev
    refine run [] 100 ?_
    repeat first
      | refine z_gq (by first | omega | (simp [hI_sI, hI_sF, hI_sR, hI_nw, hI_ff, hI_fl, hI_cp]; try omega)) ?_
      | refine z_iq rfl (by first | omega | (simp [hI_sI, hI_sF, hI_sR, hI_nw, hI_ff, hI_fl, hI_cp]; try omega)) (by first | omega | (simp [hI_sI, hI_sF, hI_sR, hI_nw, hI_ff, hI_fl, hI_cp]; try omega)) ?_
      | refine z_dq (mS.now hS) ?_
    exact fin
theorem d_shut {d : Nat} {k : Int} {u : aS} {Q : aQ} {A : Al} (hA : mA u A) (hV : vTr A.2.2.2.1) (hk : 0 ≤ k ∧ k ≤ 3) (h : ∀ u', mA u' (A.1, A.2.1, A.2.2.1, hK A.2.2.2.1 (shT A.2.2.2.1 k), A.2.2.2.2) → fD u u' → Q none u') : wp (wpm (d + 3)) cd_X8_toldShut Q 11 [vR 139, vI 1, vI k] [] u 0 0 := by
  have hS := hA.1
  rw [hK_sh] at h
  obtain ⟨c1, c2, c3, c4⟩ := hA.2.2.2.2.1 k hk.1 hk.2
  have hf : fA (fun a => a = 143) u (sI u 143 k 1) := fA_sI _ _ _ rfl
  have e : ∀ a, ¬ a = 143 → ∀ i, hI (sI u 143 k 1) a i = hI u a i := fun a ha i => (hf.1 a ha i).1
  refine run [] 100 ?_
  repeat first
    | refine z_gq (by first | omega | (simp [hI_sI, hI_sF, hI_sR, hI_nw, hI_ff, hI_fl, hI_cp]; try omega)) ?_
    | refine z_iq rfl (by first | omega | (simp [hI_sI, hI_sF, hI_sR, hI_nw, hI_ff, hI_fl, hI_cp]; try omega)) (by first | omega | (simp [hI_sI, hI_sF, hI_sR, hI_nw, hI_ff, hI_fl, hI_cp]; try omega)) ?_
    | refine z_dq (mS.shut hS) ?_
  refine h _ (mA_tr hf (fun a => by omega) hA (mTr_up hA.2.2.2.2.1 hV (fun j _ => e 142 (by omega) j) (fun j hj => by rw [hI_sI, if_neg (by omega)]) (fun j _ => e 145 (by omega) j) (fun j _ => e 144 (by omega) j) (mTk_e (e 142 (by omega)) c1) (by rw [hI_sI, if_pos ⟨rfl, rfl⟩]) ((e 145 (by omega) k).trans c3) (fun j t ht => mTk_e (e 144 (by omega)) (c4 j t ht)))) (fD_of hf (fun a => by omega) rfl)
theorem w_dhouse1 {d : Nat} {Q : aQ} {c s : Nat} : ∀ (n : Nat) (i : Int) (u : aS), mS u → i + n = 344 → 0 ≤ i → wp (wpm d) cd_X8_toldHouse Q 40 [vR 139, vI 1, vI 344] [] (fl u 142 i 344 0) c s → wp (wpm d) cd_X8_toldHouse Q 20 [vR 139, vI 1, vI i] [] u c s
  | 0, i, u, hS, h1, h0, h => by
    rw [fl_end u 142 0 (by omega)] at h
    have e : i = 344 := by omega
    subst e
    refine run [(40, [])] 60 ?_
    exact h
  | n + 1, i, u, hS, h1, h0, h => by
    refine run [(20, [])] 60 ?_
    refine z_bq (fun hz => ?_) (fun hz => by omega)
    repeat first
      | refine z_gq (by first | omega | (simp [hI_sI, hI_sF, hI_sR, hI_nw, hI_ff, hI_fl, hI_cp]; try omega)) ?_
      | refine z_iq rfl (by first | omega | (simp [hI_sI, hI_sF, hI_sR, hI_nw, hI_ff, hI_fl, hI_cp]; try omega)) (by first | omega | (simp [hI_sI, hI_sF, hI_sR, hI_nw, hI_ff, hI_fl, hI_cp]; try omega)) ?_
      | refine z_dq (mS.now hS) ?_
    rw [← fl_step u 142 0 (show i < 344 by omega)] at h
    exact w_dhouse1 n (i + 1) _ hS (by omega) (by omega) h
theorem w_dhouse2 {d : Nat} {Q : aQ} {c s : Nat} : ∀ (n : Nat) (i : Int) (u : aS), mS u → i + n = 4 → 0 ≤ i → Q none (fl u 143 i 4 0) → wp (wpm d) cd_X8_toldHouse Q 42 [vR 139, vI 1, vI i] [] u c s
  | 0, i, u, hS, h1, h0, h => by
    rw [fl_end u 143 0 (by omega)] at h
    refine run [] 60 ?_
    refine z_bq (fun hz => by omega) (fun hz => ?_)
    exact h
  | n + 1, i, u, hS, h1, h0, h => by
    refine run [(42, [])] 60 ?_
    refine z_bq (fun hz => ?_) (fun hz => by omega)
    repeat first
      | refine z_gq (by first | omega | (simp [hI_sI, hI_sF, hI_sR, hI_nw, hI_ff, hI_fl, hI_cp]; try omega)) ?_
      | refine z_iq rfl (by first | omega | (simp [hI_sI, hI_sF, hI_sR, hI_nw, hI_ff, hI_fl, hI_cp]; try omega)) (by first | omega | (simp [hI_sI, hI_sF, hI_sR, hI_nw, hI_ff, hI_fl, hI_cp]; try omega)) ?_
      | refine z_dq (mS.shut hS) ?_
    rw [← fl_step u 143 0 (show i < 4 by omega)] at h
    exact w_dhouse2 n (i + 1) _ hS (by omega) (by omega) h
theorem d_house {d : Nat} {u : aS} {Q : aQ} {A : Al} {w : aV} (hA : mA u A) (h : ∀ u', mA u' ((0, A.1.2), A.2.1, A.2.2.1, hK A.2.2.2.1 (empT A.2.2.2.1), A.2.2.2.2) → fD u u' → Q none u') : wp (wpm (d + 3)) cd_X8_toldHouse Q 9 [vR 139, vI 1, w] [] u 0 0 := by
  have hS := hA.1
  rw [hK_emp] at h
  refine run [(20, [])] 60 ?_
  refine w_dhouse1 344 0 _ hS (by omega) (by omega) ?_
  refine run [(42, [])] 60 ?_
  refine w_dhouse2 4 0 _ hS (by omega) (by omega) ?_
  have e : ∀ a i, ¬ (a = 139 ∧ i = 2) → ¬ a = 142 → ¬ a = 143 → hI (fl (fl (sI u 139 2 0) 142 0 344 0) 143 0 4 0) a i = hI u a i := fun a i h1 h2 h3 => by rw [hI_fl, if_neg (by omega), hI_fl, if_neg (by omega), hI_sI, if_neg (by omega)]
  have e2 : ∀ i, 0 ≤ i → i < 344 → hI (fl (fl (sI u 139 2 0) 142 0 344 0) 143 0 4 0) 142 i = 0 := fun i h1 h2 => by rw [hI_fl, if_neg (by omega), hI_fl, if_pos (by omega)]
  have e3 : ∀ i, 0 ≤ i → i < 4 → hI (fl (fl (sI u 139 2 0) 142 0 344 0) 143 0 4 0) 143 i = 0 := fun i h1 h2 => by rw [hI_fl, if_pos (by omega)]
  have e4 : hI (fl (fl (sI u 139 2 0) 142 0 344 0) 143 0 4 0) 139 2 = 0 := by rw [hI_fl, if_neg (by omega), hI_fl, if_neg (by omega), hI_sI, if_pos ⟨rfl, rfl⟩]
  obtain ⟨h1, h2, h3, h4, h5, h6⟩ := hA
  refine h _ ⟨hS, ⟨e4, fun s s0 s1 => (e 141 s (by omega) (by omega) (by omega)).trans (h2.2.1 s s0 s1), fun s i s0 s1 i0 i1 i2 => ?_⟩, mTx_f (e 139 13 (by omega) (by omega) (by omega)) (fun i => e 151 i (by omega) (by omega) (by omega)) h3, mRk_f (fun i => e 153 i (by omega) (by omega) (by omega)) (fun i => e 154 i (by omega) (by omega) (by omega)) (fun i => e 155 i (by omega) (by omega) (by omega)) h4, fun k k0 k1 => ?_, mKp_f (fun i => e 146 i (by omega) (by omega) (by omega)) (fun i => e 147 i (by omega) (by omega) (by omega)) (fun i => e 148 i (by omega) (by omega) (by omega)) h6⟩ ⟨?_, fun i hi => e 139 i (by omega) (by omega) (by omega), rfl⟩
  · replace i2 : s < 0 := i2
    omega
  · obtain ⟨c1, c2, c3, c4⟩ := h5 k k0 k1
    have ek : empT A.2.2.2.1 k = (([], 0), (A.2.2.2.1 k).2.1, 0) := by
      unfold empT
      rw [if_pos ⟨k0, k1⟩]
    show mTk _ 142 (86 * k) (empT A.2.2.2.1 k).1 ∧ hI _ 143 k = (empT A.2.2.2.1 k).2.2 ∧ hI _ 145 k = (empT A.2.2.2.1 k).2.1.length ∧ ∀ (j : Nat) (t : Tk), (empT A.2.2.2.1 k).2.1[j]? = some t → mTk _ 144 (344 * k + 86 * ((empT A.2.2.2.1 k).2.1.length - 1 - j)) t
    rw [ek]
    refine ⟨mTk_m (e2 _ (by omega) (by omega)) (e2 _ (by omega) (by omega)) (fun j p hp => ?_), e3 k k0 (by omega), (e 145 k (by omega) (by omega) (by omega)).trans c3, fun j t ht => mTk_e (fun i => e 144 i (by omega) (by omega) (by omega)) (c4 j t ht)⟩
    have hp' : ([] : List Sp)[j]? = some p := hp
    simp at hp'
  · exact fA_tr (fA_sI _ _ _ (by omega)) (fA_tr (fA_fl _ _ _ _ (by omega)) (fA_fl _ _ _ _ (by omega)))
theorem d_tone {d : Nat} {a b n : Int} {u : aS} {Q : aQ} {A : Al} (hA : mA u A) (hV : vSz A.1) (ha : 0 ≤ a ∧ a ≤ 200) (hb : 0 ≤ b ∧ b ≤ 200) (hn : 1 ≤ n ∧ n ≤ 64) (h6 : ¬ A.1.1 = 6) (h : ∀ u', mA u' (addS A.1 n (toneF a b), A.2) → fD u u' → Q none u') : wp (wpm (d + 3)) cd_X8_toldTone Q 73 [vR 139, vI 1, vI a, vI b, vI n] [] u 0 0 := by
  refine run [] 60 ?_
  refine c_sounds hA hV ha hb hn h6 (fun u' m1 m2 m3 m4 => ?_)
  exact h u' m1 ⟨fA_wk m2 (fun a => by omega), m3, m4⟩
