/-! what stays valid: tracks -/
theorem SL_set : ∀ (l : List Sp) (lo : Int) (i : Nat) (p p' : Sp), SL lo l → l[i]? = some p → q3 p' = q3 p → q2 p' = q2 p → SL lo (l.set i p')
  | [], _, i, p, p', _, h, _, _ => by simp at h
  | q :: l, lo, 0, p, p', hs, h, h3, h2 => by
    have e : q = p := by simpa using h
    subst e
    obtain ⟨⟨a, b, c⟩, s⟩ := hs
    have ee : qe p' = qe q := by
      unfold qe
      omega
    show (lo ≤ q3 p' ∧ 1 ≤ q2 p' ∧ qe p' ≤ 128) ∧ SL (qe p') l
    rw [ee]
    exact ⟨⟨by omega, by omega, c⟩, s⟩
  | q :: l, lo, i + 1, p, p', hs, h, h3, h2 => by
    obtain ⟨a, s⟩ := hs
    have h' : l[i]? = some p := by simpa using h
    exact ⟨a, SL_set l (qe q) i p p' s h' h3 h2⟩
theorem stL_mem {l : List Sp} {i : Int} {p q : Sp} (h : q ∈ stL l i p) : q ∈ l ∨ q = p := by
  unfold stL at h
  rcases List.mem_or_eq_of_mem_set h with e | e
  · exact Or.inl e
  · exact Or.inr e
theorem vG_set {l : List Sp} {i : Int} {p : Sp} (hG : vG l) (i0 : 0 ≤ i) (i1 : i < l.length) (hp : vP p) (h3 : q3 p = q3 (spA l i)) (h2 : q2 p = q2 (spA l i)) : vG (stL l i p) := by
  refine ⟨SL_set l 0 i.toNat _ p hG.1 (spA_get i0 i1) h3 h2, ?_, fun q hq => ?_⟩
  · have := hG.2.1
    unfold stL
    rw [List.length_set]
    exact this
  · rcases stL_mem hq with e | e
    · exact hG.2.2 q e
    · rw [e]
      exact hp
theorem mem_snd {R : List (Int × Sp)} {q : Sp} (h : q ∈ R.map Prod.snd) : ∃ e, e ∈ R ∧ e.2 = q := by
  obtain ⟨e, h1, h2⟩ := List.mem_map.mp h
  exact ⟨e, h1, h2⟩
theorem rs_vP {l : List Sp} {a b g : Int} (h : ∀ p, p ∈ l → vP p) : ∀ e, e ∈ rs a b g (en 0 l) → vP e.2 := rs_all h (fun p a hp h1 h2 => vP_ahd hp h1 (by omega)) (fun p b hp h1 h2 => vP_frm hp (by omega) h2)
theorem rs_vQ {K : So} {l : List Sp} {a b g : Int} (h : ∀ p, p ∈ l → vQ K p) : ∀ e, e ∈ rs a b g (en 0 l) → vQ K e.2 := rs_all h (fun p a hp h1 h2 => vQ_ahd hp h2) (fun p b hp h1 h2 => vQ_frm hp)
theorem vG_lay {l : List Sp} {p : Sp} {g : Int} (hG : vG l) (hp : vP p) (hn : (layR l p g).length ≤ 12) : vG ((layR l p g).map Prod.snd) := by
  have h3 := hp.2.2.1
  have h2 := hp.2.1
  refine ⟨(lay_Rp (g := g) (ow := fun x => if q3 p ≤ x ∧ x < qe p then 12 else if oR (en 0 l) x = g then -1 else oR (en 0 l) x) hG.1 h3.1 h2.2.1 (by unfold qe; omega) hG.2.1 (fun x _ _ => rfl)).1, by simpa using hn, fun q hq => ?_⟩
  obtain ⟨e, he, hq⟩ := mem_snd hq
  rw [← hq]
  rcases ins_mem.mp he with z | z
  · rw [z]
    exact hp
  · exact rs_vP hG.2.2 e z
theorem vQ_lay {K : So} {l : List Sp} {p : Sp} {g : Int} (hG : ∀ p, p ∈ l → vQ K p) (hp : vQ K p) : ∀ q, q ∈ (layR l p g).map Prod.snd → vQ K q := by
  intro q hq
  obtain ⟨e, he, hq⟩ := mem_snd hq
  rw [← hq]
  rcases ins_mem.mp he with z | z
  · rw [z]
    exact hp
  · exact rs_vQ hG e z
theorem vG_clr {l : List Sp} {a b : Int} (hG : vG l) (h0 : 0 ≤ a) (h1 : b ≤ 128) (hn : (clrR l a b).length ≤ 12) : vG ((clrR l a b).map Prod.snd) := by
  refine ⟨(clr_Rp (ow := fun x => if a ≤ x ∧ x < b then -1 else oR (en 0 l) x) hG.1 h0 h1 (fun x _ _ => rfl)).1, by simpa using hn, fun q hq => ?_⟩
  obtain ⟨e, he, hq⟩ := mem_snd hq
  rw [← hq]
  exact rs_vP hG.2.2 e he
theorem vQ_clr {K : So} {l : List Sp} {a b : Int} (hG : ∀ p, p ∈ l → vQ K p) : ∀ q, q ∈ (clrR l a b).map Prod.snd → vQ K q := by
  intro q hq
  obtain ⟨e, he, hq⟩ := mem_snd hq
  rw [← hq]
  exact rs_vQ hG e he
theorem vG_cut {l : List Sp} {x : Int} {c : Int × Sp} (hG : vG l) (hc : c ∈ en 0 l) (h1 : q3 c.2 < x) (h2 : x < qe c.2) (hn : (cutR l x c.1 c.2).length ≤ 12) : vG ((cutR l x c.1 c.2).map Prod.snd) := by
  have hp := hG.2.2 c.2 (en_mem hc).2.2.1
  refine ⟨(cut_Rp (ow := fun x => oR (en 0 l) x) hG.1 hc h1 h2 (fun x _ _ => rfl)).1, by simpa using hn, fun q hq => ?_⟩
  obtain ⟨e, he, hq⟩ := mem_snd hq
  rw [← hq]
  rcases ins_mem.mp he with z | z
  · rw [z]
    exact vP_frm hp (by omega) h2
  · rcases ins_mem.mp z with y | y
    · rw [y]
      exact vP_ahd hp h1 (by omega)
    · exact rs_vP hG.2.2 e y
theorem vQ_cut {K : So} {l : List Sp} {x : Int} {c : Int × Sp} (hG : ∀ p, p ∈ l → vQ K p) (hc : c ∈ en 0 l) (h2 : x < qe c.2) : ∀ q, q ∈ (cutR l x c.1 c.2).map Prod.snd → vQ K q := by
  have hp := hG c.2 (en_mem hc).2.2.1
  intro q hq
  obtain ⟨e, he, hq⟩ := mem_snd hq
  rw [← hq]
  rcases ins_mem.mp he with z | z
  · rw [z]
    exact vQ_frm hp
  · rcases ins_mem.mp z with y | y
    · rw [y]
      exact vQ_ahd hp h2
    · exact rs_vQ hG e y
/-- a track has a new now, or nothing has changed -/
def stp (K : So) (T T' : Tr) : Prop := T' = T ∨ ∃ k x, (0 ≤ k ∧ k ≤ 3) ∧ T' = nwT T k x ∧ vTk x ∧ ∀ p, p ∈ x.1 → vQ K p
theorem stp_v {K : So} {T T' : Tr} (h : stp K T T') (hV : vTr T) : vTr T' := by
  rcases h with e | ⟨k, x, hk, e, hx, _⟩
  · rw [e]
    exact hV
  · rw [e]
    exact vTr_nw hV hk.1 hk.2 hx
theorem stp_N {K : So} {T T' : Tr} (h : stp K T T') (hV : vQN K T) : vQN K T' := by
  rcases h with e | ⟨k, x, hk, e, hx, hq⟩
  · rw [e]
    exact hV
  · rw [e]
    intro j j0 j1 p hp
    unfold nwT upT at hp
    by_cases ej : j = k
    · rw [if_pos ej] at hp
      exact hq p hp
    · rw [if_neg ej] at hp
      exact hV j j0 j1 p hp
theorem hst_mem {t x : Tk} {h : List Tk} (hx : x ∈ hst t h) : x ∈ t :: h := List.mem_of_mem_take hx
theorem stp_T {K : So} {T T' : Tr} (h : stp K T T') (hV : vQT K T) : vQT K T' := by
  rcases h with e | ⟨k, x, hk, e, hx, hq⟩
  · rw [e]
    exact hV
  · rw [e]
    intro j j0 j1 t ht p hp
    unfold nwT upT at ht
    by_cases ej : j = k
    · subst ej
      rw [if_pos rfl] at ht
      rcases List.mem_cons.mp ht with e1 | e1
      · rw [e1] at hp
        exact hq p hp
      · exact hV j j0 j1 t (hst_mem e1) p hp
    · rw [if_neg ej] at ht
      exact hV j j0 j1 t ht p hp
theorem stp_ly {K : So} {T : Tr} {k : Int} {R : List (Int × Sp)} (hV : vTr T) (k0 : 0 ≤ k) (k1 : k ≤ 3) (h : R.length ≤ 12 → vG (R.map Prod.snd)) (hq : ∀ p, p ∈ R.map Prod.snd → vQ K p) : stp K T (lyT T k R).2 := by
  unfold lyT
  by_cases e : 12 < R.length
  · rw [if_pos e]
    exact Or.inl rfl
  · rw [if_neg e]
    exact Or.inr ⟨k, _, ⟨k0, k1⟩, rfl, ⟨h (by omega), (hV.now k0 k1).2⟩, hq⟩
theorem s_put {K : So} {T : Tr} {k s f m t : Int} (hZ : vSz K) (hV : vTr T) (hQ : vQN K T) : stp K T (oPut K T k s f m t).2 := by
  unfold oPut
  by_cases c1 : ¬ ((0 ≤ k ∧ k ≤ 3) ∧ 0 ≤ s ∧ s < K.1)
  · rw [if_pos c1]
    exact Or.inl rfl
  · rw [if_neg c1]
    by_cases c2 : ¬ ((0 ≤ f ∧ f < K.2.1 s) ∧ (1 ≤ m ∧ m ≤ K.2.1 s - f) ∧ 0 ≤ t ∧ t ≤ 128 - m)
    · rw [if_pos c2]
      exact Or.inl rfl
    · rw [if_neg c2]
      have z1 := hZ.1
      have z2 := hZ.2 s (by omega) (by omega)
      have hp : vP (s, f, m, t, 8, 0, 0) := by
        simp [vP, q0, q1, q2, q3, q4, q5, q6]
        omega
      have hq : vQ K (s, f, m, t, 8, 0, 0) := by
        show s < K.1 ∧ f + m ≤ K.2.1 s
        omega
      exact stp_ly hV (by omega) (by omega) (vG_lay (hV.now (by omega) (by omega)).1 hp) (vQ_lay (hQ k (by omega) (by omega)) hq)
theorem s_wipe {K : So} {T : Tr} {k a b : Int} (hV : vTr T) (hQ : vQN K T) : stp K T (oWipe T k a b).2 := by
  unfold oWipe
  by_cases c1 : ¬ (0 ≤ k ∧ k ≤ 3)
  · rw [if_pos c1]
    exact Or.inl rfl
  · rw [if_neg c1]
    by_cases c2 : ¬ ((0 ≤ a ∧ a ≤ 127) ∧ a ≤ b ∧ b ≤ 128)
    · rw [if_pos c2]
      exact Or.inl rfl
    · rw [if_neg c2]
      exact stp_ly hV (by omega) (by omega) (vG_clr (hV.now (by omega) (by omega)).1 (by omega) (by omega)) (vQ_clr (hQ k (by omega) (by omega)))
theorem s_cut {K : So} {T : Tr} {k x : Int} (hV : vTr T) (hQ : vQN K T) : stp K T (oCut T k x).2 := by
  unfold oCut
  by_cases c1 : ¬ (0 ≤ k ∧ k ≤ 3)
  · rw [if_pos c1]
    exact Or.inl rfl
  · rw [if_neg c1]
    by_cases c2 : ¬ (1 ≤ x ∧ x ≤ 127)
    · rw [if_pos c2]
      exact Or.inl rfl
    · rw [if_neg c2]
      by_cases c3 : oR (en 0 (T k).1.1) x = -1 ∨ q3 (spA (T k).1.1 (oR (en 0 (T k).1.1) x)) = x
      · rw [if_pos c3]
        exact Or.inl rfl
      · rw [if_neg c3]
        have vk := (hV.now (k := k) (by omega) (by omega)).1
        have ob := own_b (l := (T k).1.1) x
        have hc := (spA_mem (l := (T k).1.1) (i := oR (en 0 (T k).1.1) x) (by omega) (by omega)).2
        have ho := (own_iff vk.1 hc x).1 rfl
        simp only [] at ho
        refine stp_ly hV (by omega) (by omega) (vG_cut (c := (oR (en 0 (T k).1.1) x, spA (T k).1.1 (oR (en 0 (T k).1.1) x))) vk hc ?_ ho.2) (vQ_cut (c := (oR (en 0 (T k).1.1) x, spA (T k).1.1 (oR (en 0 (T k).1.1) x))) (hQ k (by omega) (by omega)) hc ho.2)
        show q3 (spA (T k).1.1 (oR (en 0 (T k).1.1) x)) < x
        omega
theorem s_move {K : So} {T : Tr} {k i t : Int} (hV : vTr T) (hQ : vQN K T) : stp K T (oMove T k i t).2 := by
  unfold oMove
  by_cases c1 : ¬ ((0 ≤ k ∧ k ≤ 3) ∧ 0 ≤ i ∧ i < (T k).1.1.length)
  · rw [if_pos c1]
    exact Or.inl rfl
  · rw [if_neg c1]
    by_cases c2 : ¬ (0 ≤ t ∧ t ≤ 128 - q2 (spA (T k).1.1 i))
    · rw [if_pos c2]
      exact Or.inl rfl
    · rw [if_neg c2]
      have vk := (hV.now (k := k) (by omega) (by omega)).1
      have hm := (spA_mem (l := (T k).1.1) (i := i) (by omega) (by omega)).1
      have hp := vk.2.2 _ hm
      have hq := hQ k (by omega) (by omega) _ hm
      have hp' : vP (mvd (spA (T k).1.1 i) t) := by
        obtain ⟨a, b, c, e⟩ := hp
        refine ⟨a, b, ⟨?_, ?_⟩, e⟩
        · show 0 ≤ t
          omega
        · show t + q2 (spA (T k).1.1 i) ≤ 128
          omega
      exact stp_ly hV (by omega) (by omega) (vG_lay vk hp') (vQ_lay (hQ k (by omega) (by omega)) hq)
theorem s_fade {K : So} {T : Tr} {k i a b : Int} (hV : vTr T) (hQ : vQN K T) : stp K T (oFade T k i a b).2 := by
  unfold oFade
  by_cases c1 : ¬ ((0 ≤ k ∧ k ≤ 3) ∧ 0 ≤ i ∧ i < (T k).1.1.length)
  · rw [if_pos c1]
    exact Or.inl rfl
  · rw [if_neg c1]
    by_cases c2 : ¬ (0 ≤ a ∧ 0 ≤ b ∧ a + b ≤ q2 (spA (T k).1.1 i))
    · rw [if_pos c2]
      exact Or.inl rfl
    · rw [if_neg c2]
      have vn := hV.now (k := k) (by omega) (by omega)
      have vk := vn.1
      have hm := (spA_mem (l := (T k).1.1) (i := i) (by omega) (by omega)).1
      have hp := vk.2.2 _ hm
      have hq := hQ k (by omega) (by omega) _ hm
      have hp' : vP (fdd (spA (T k).1.1 i) a b) := by
        obtain ⟨x, y, z, w, e⟩ := hp
        refine ⟨x, y, z, w, ?_⟩
        show 0 ≤ a ∧ 0 ≤ b ∧ a + b ≤ q2 (spA (T k).1.1 i)
        omega
      refine Or.inr ⟨k, _, by omega, rfl, ⟨vG_set vk (by omega) (by omega) hp' rfl rfl, vn.2⟩, fun p hp => ?_⟩
      rcases stL_mem hp with e | e
      · exact hQ k (by omega) (by omega) p e
      · rw [e]
        exact hq
theorem s_gain {K : So} {T : Tr} {k i g : Int} (hV : vTr T) (hQ : vQN K T) : stp K T (oGain T k i g).2 := by
  unfold oGain
  by_cases c1 : ¬ ((0 ≤ k ∧ k ≤ 3) ∧ 0 ≤ i ∧ i < (T k).1.1.length)
  · rw [if_pos c1]
    exact Or.inl rfl
  · rw [if_neg c1]
    by_cases c2 : ¬ (0 ≤ g ∧ g ≤ 16)
    · rw [if_pos c2]
      exact Or.inl rfl
    · rw [if_neg c2]
      have vn := hV.now (k := k) (by omega) (by omega)
      have vk := vn.1
      have hm := (spA_mem (l := (T k).1.1) (i := i) (by omega) (by omega)).1
      have hp := vk.2.2 _ hm
      have hq := hQ k (by omega) (by omega) _ hm
      have hp' : vP (gnd (spA (T k).1.1 i) g) := by
        obtain ⟨x, y, z, w, e⟩ := hp
        refine ⟨x, y, z, ?_, e⟩
        show 0 ≤ g ∧ g ≤ 16
        omega
      refine Or.inr ⟨k, _, by omega, rfl, ⟨vG_set vk (by omega) (by omega) hp' rfl rfl, vn.2⟩, fun p hp => ?_⟩
      rcases stL_mem hp with e | e
      · exact hQ k (by omega) (by omega) p e
      · rw [e]
        exact hq
theorem s_shift {K : So} {T : Tr} {k n : Int} (hV : vTr T) (hQ : vQN K T) : stp K T (oShift T k n).2 := by
  unfold oShift
  by_cases c1 : ¬ (0 ≤ k ∧ k ≤ 3)
  · rw [if_pos c1]
    exact Or.inl rfl
  · rw [if_neg c1]
    by_cases c2 : ¬ (-16 ≤ n ∧ n ≤ 16)
    · rw [if_pos c2]
      exact Or.inl rfl
    · rw [if_neg c2]
      have vn := hV.now (k := k) (by omega) (by omega)
      exact Or.inr ⟨k, _, by omega, rfl, ⟨vn.1, by omega⟩, hQ k (by omega) (by omega)⟩
