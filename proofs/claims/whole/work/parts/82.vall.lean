/-! what stays valid: all -/
def vQK (K : So) (P : Kp) : Prop := ∀ k, 0 ≤ k → k ≤ 1 → (P k).1 = 1 → ∀ j, 0 ≤ j → j ≤ 3 → ∀ p, p ∈ ((P k).2 j).1.1 → vQ K p
def vA (A : Al) : Prop := (vSz A.1 ∧ vSf A.1) ∧ vTx A.2.1 ∧ vRk A.2.2.1 ∧ (vTr A.2.2.2.1 ∧ vQT A.1 A.2.2.2.1) ∧ vKp A.2.2.2.2 ∧ vQK A.1 A.2.2.2.2
theorem vA.sz {A : Al} (h : vA A) : vSz A.1 := h.1.1
theorem vA.sf {A : Al} (h : vA A) : vSf A.1 := h.1.2
theorem vA.tx {A : Al} (h : vA A) : vTx A.2.1 := h.2.1
theorem vA.rk {A : Al} (h : vA A) : vRk A.2.2.1 := h.2.2.1
theorem vA.tr {A : Al} (h : vA A) : vTr A.2.2.2.1 := h.2.2.2.1.1
theorem vA.qt {A : Al} (h : vA A) : vQT A.1 A.2.2.2.1 := h.2.2.2.1.2
theorem vA.kp {A : Al} (h : vA A) : vKp A.2.2.2.2 := h.2.2.2.2.1
theorem vA.qk {A : Al} (h : vA A) : vQK A.1 A.2.2.2.2 := h.2.2.2.2.2
theorem vA.qn {A : Al} (h : vA A) : vQN A.1 A.2.2.2.1 := fun k k0 k1 p hp => h.qt k k0 k1 _ (List.mem_cons_self ..) p hp
theorem vA.tn {A : Al} (h : vA A) : vTN A.2.2.2.1 := fun k k0 k1 => ⟨h.tr.now k0 k1, (h.tr k k0 k1).2.2⟩
theorem vA.td {A : Al} (h : vA A) : vTd (A.1.1, A.1.2.1) := vTd_z h.sz
theorem v_tx {A : Al} {X : Tx} (h : vA A) (hX : vTx X) : vA (A.1, X, A.2.2) := ⟨h.1, hX, h.2.2⟩
theorem v_rk {A : Al} {K : Rk} (h : vA A) (hK : vRk K) : vA (A.1, A.2.1, K, A.2.2.2) := ⟨h.1, h.2.1, hK, h.2.2.2⟩
theorem v_tr {A : Al} {T : Tr} (h : vA A) (h1 : vTr T) (h2 : vQT A.1 T) : vA (A.1, A.2.1, A.2.2.1, T, A.2.2.2.2) := ⟨h.1, h.2.1, h.2.2.1, ⟨h1, h2⟩, h.2.2.2.2⟩
theorem v_st {A : Al} {T : Tr} (h : vA A) (hs : stp A.1 A.2.2.2.1 T) : vA (A.1, A.2.1, A.2.2.1, T, A.2.2.2.2) := v_tr h (stp_v hs h.tr) (stp_T hs h.qt)
theorem v_write {A : Al} {l : Int} (h : vA A) : vA (A.1, (oWrite A.2.1 l).2, A.2.2) := v_tx h (vTx_write l h.tx)
theorem v_erase {A : Al} (h : vA A) : vA (A.1, (0, A.2.1.2), A.2.2) := v_tx h ⟨⟨by show (0 : Int) ≤ 0; omega, by show (0 : Int) ≤ 200; omega⟩, fun i i0 i1 => by replace i1 : i < 0 := i1; omega⟩
theorem v_add {A : Al} {n : Int} {g : Int → UInt32} (h : vA A) (h6 : ¬ A.1.1 = 6) (hn : 1 ≤ n ∧ n ≤ 64) (hg : ∀ i, 0 ≤ i → i < n → fb (134 + 15 * A.1.1.toNat) (g i) ∧ ¬ g i = 2147483648) : vA (addS A.1 n g, A.2) := ⟨⟨vSz_add h.sz h6 hn, vSf_add h.sf h.sz.1.1 hg⟩, h.2.1, h.2.2.1, ⟨h.tr, fun k k0 k1 t ht p hp => vQ_add (h.qt k k0 k1 t ht p hp)⟩, h.kp, fun k k0 k1 e j j0 j1 p hp => vQ_add (h.qk k k0 k1 e j j0 j1 p hp)⟩
theorem v_tone {A : Al} {a b n : Int} (h : vA A) : vA ((oTone A.1 a b n).2, A.2) := by
  unfold oTone
  by_cases c1 : ¬ ((0 ≤ a ∧ a ≤ 200) ∧ (0 ≤ b ∧ b ≤ 200) ∧ 1 ≤ n ∧ n ≤ 64)
  · rw [if_pos c1]
    exact h
  · rw [if_neg c1]
    by_cases c2 : A.1.1 = 6
    · rw [if_pos c2]
      exact h
    · rw [if_neg c2]
      exact v_add h c2 (by omega) (fun i i0 i1 => tone_b (by omega) (by omega) (by omega) i0 i1 _ (by omega))
theorem v_bounce {A : Al} {t n : Int} (h : vA A) : vA ((oBounce A.1 A.2.2.2.1 t n).2, A.2) := by
  unfold oBounce
  by_cases c1 : ¬ ((1 ≤ n ∧ n ≤ 64) ∧ 0 ≤ t ∧ t ≤ 128 - n)
  · rw [if_pos c1]
    exact h
  · rw [if_neg c1]
    by_cases c2 : A.1.1 = 6
    · rw [if_pos c2]
      exact h
    · rw [if_neg c2]
      exact v_add h c2 (by omega) (fun i i0 i1 => hdF_b _ h.sz h.sf h.tn h.qn)
/-! racks -/
theorem vRk_m {K : Rk} {S N T : Int → Int} (hS : ∀ r, 0 ≤ r → r ≤ 2 → -1 ≤ S r ∧ S r ≤ 2) (hN : ∀ r, 0 ≤ r → r ≤ 2 → 0 ≤ N r ∧ N r ≤ 8) (hT : ∀ j, 0 ≤ T j ∧ T j ≤ 200) : vRk (S, N, T) := ⟨fun r r0 r1 => ⟨hS r r0 r1, hN r r0 r1⟩, hT⟩
theorem up_in {f : Int → Int} {k v lo hi : Int} {p : Int → Prop} (h : ∀ r, p r → lo ≤ f r ∧ f r ≤ hi) (hv : lo ≤ v ∧ v ≤ hi) (r : Int) (hr : p r) : lo ≤ up f k v r ∧ up f k v r ≤ hi := by
  unfold up
  by_cases e : r = k
  · rw [if_pos e]
    exact hv
  · rw [if_neg e]
    exact h r hr
theorem up8_in {f g : Int → Int} {k lo hi : Int} (h : ∀ r, lo ≤ f r ∧ f r ≤ hi) (hv : ∀ r, lo ≤ g r ∧ g r ≤ hi) (r : Int) : lo ≤ up8 f k g r ∧ up8 f k g r ≤ hi := by
  unfold up8
  by_cases e : 8 * k ≤ r ∧ r < 8 * k + 8
  · rw [if_pos e]
    exact hv _
  · rw [if_neg e]
    exact h r
theorem vRk_S {K : Rk} (h : vRk K) {k v : Int} (hv : -1 ≤ v ∧ v ≤ 2) (r : Int) (r0 : 0 ≤ r) (r1 : r ≤ 2) : -1 ≤ up K.1 k v r ∧ up K.1 k v r ≤ 2 := up_in (p := fun r => 0 ≤ r ∧ r ≤ 2) (fun r hr => (h.1 r hr.1 hr.2).1) hv r ⟨r0, r1⟩
theorem vRk_N {K : Rk} (h : vRk K) {k v : Int} (hv : 0 ≤ v ∧ v ≤ 8) (r : Int) (r0 : 0 ≤ r) (r1 : r ≤ 2) : 0 ≤ up K.2.1 k v r ∧ up K.2.1 k v r ≤ 8 := up_in (p := fun r => 0 ≤ r ∧ r ≤ 2) (fun r hr => (h.1 r hr.1 hr.2).2) hv r ⟨r0, r1⟩
theorem vRk_T {K : Rk} (h : vRk K) {k v : Int} (hv : 0 ≤ v ∧ v ≤ 200) (j : Int) : 0 ≤ up K.2.2 k v j ∧ up K.2.2 k v j ≤ 200 := up_in (p := fun _ => True) (fun r _ => h.2 r) hv j trivial
theorem vRk_rack {K : Rk} {r a n : Int} (h : vRk K) : vRk (oRack K r a n).2 := by
  unfold oRack
  by_cases c1 : ¬ (0 ≤ r ∧ r ≤ 2)
  · rw [if_pos c1]
    exact h
  · rw [if_neg c1]
    by_cases c2 : ¬ (0 ≤ a ∧ a ≤ 2) ∨ 8 < n
    · rw [if_pos c2]
      exact h
    · rw [if_neg c2]
      by_cases c3 : n < 0
      · rw [if_pos c3]
        exact h
      · rw [if_neg c3]
        exact vRk_m (K := K) (vRk_S h (by omega)) (vRk_N h (by omega)) (up8_in h.2 (fun _ => by omega))
theorem vRk_hang {K : Rk} {r i a v : Int} (h : vRk K) : vRk (oHang K r i a v).2 := by
  unfold oHang
  by_cases c1 : ¬ (0 ≤ r ∧ r ≤ 2)
  · rw [if_pos c1]
    exact h
  · rw [if_neg c1]
    by_cases c2 : ¬ ((1 ≤ a ∧ a ≤ 2) ∧ 0 ≤ v ∧ v ≤ 99)
    · rw [if_pos c2]
      exact h
    · rw [if_neg c2]
      by_cases c3 : K.1 r = -1
      · rw [if_pos c3]
        exact h
      · rw [if_neg c3]
        by_cases c4 : ¬ (0 ≤ i ∧ i ≤ K.2.1 r - 1)
        · rw [if_pos c4]
          exact h
        · rw [if_neg c4]
          by_cases c5 : ¬ (K.1 r = 0 ∨ K.1 r = a)
          · rw [if_pos c5]
            exact h
          · rw [if_neg c5]
            refine ⟨h.1, vRk_T h ?_⟩
            unfold thg
            split <;> omega
theorem vRk_take {K : Rk} {r i : Int} (h : vRk K) : vRk (oTake K r i).2 := by
  unfold oTake
  by_cases c1 : ¬ (0 ≤ r ∧ r ≤ 2)
  · rw [if_pos c1]
    exact h
  · rw [if_neg c1]
    by_cases c3 : K.1 r = -1
    · rw [if_pos c3]
      exact h
    · rw [if_neg c3]
      by_cases c4 : ¬ (0 ≤ i ∧ i ≤ K.2.1 r - 1)
      · rw [if_pos c4]
        exact h
      · rw [if_neg c4]
        by_cases c5 : K.2.2 (8 * r + i) = 0
        · rw [if_pos c5]
          exact h
        · rw [if_neg c5]
          exact ⟨h.1, vRk_T h (by omega)⟩
theorem vRk_like {K : Rk} {r o : Int} (h : vRk K) : vRk (oLike K r o).2 := by
  unfold oLike
  by_cases c1 : ¬ ((0 ≤ r ∧ r ≤ 2) ∧ 0 ≤ o ∧ o ≤ 2)
  · rw [if_pos c1]
    exact h
  · rw [if_neg c1]
    by_cases c3 : K.1 o = -1
    · rw [if_pos c3]
      exact h
    · rw [if_neg c3]
      have b := h.1 o (by omega) (by omega)
      exact vRk_m (K := K) (vRk_S h b.1) (vRk_N h b.2) (up8_in h.2 (fun _ => h.2 _))
theorem passL_v {S N : Int → Int} {r o : Int} : ∀ (n : Nat) (i h : Int) (T : Int → Int), (∀ j, 0 ≤ T j ∧ T j ≤ 200) → ∀ j, 0 ≤ (passL S N r o n i h T).2 j ∧ (passL S N r o n i h T).2 j ≤ 200
  | 0, _, _, T, hT => hT
  | n + 1, i, h, T, hT => by
    unfold passL
    by_cases c1 : T (8 * r + i) = 0
    · rw [if_pos c1]
      exact passL_v n _ _ T hT
    · rw [if_neg c1]
      by_cases c2 : i < N o ∧ (S o = 0 ∨ S o = (if 100 < T (8 * r + i) then 2 else 1))
      · rw [if_pos c2]
        exact passL_v n _ _ _ (fun j => up_in (p := fun _ => True) (fun r _ => hT r) (hT _) j trivial)
      · rw [if_neg c2]
        exact hT
theorem vRk_pass {K : Rk} {r o : Int} (h : vRk K) : vRk (oPass K r o).2 := by
  unfold oPass
  by_cases c1 : ¬ ((0 ≤ r ∧ r ≤ 2) ∧ 0 ≤ o ∧ o ≤ 2)
  · rw [if_pos c1]
    exact h
  · rw [if_neg c1]
    by_cases c3 : K.1 r = -1 ∨ K.1 o = -1
    · rw [if_pos c3]
      exact h
    · rw [if_neg c3]
      exact ⟨h.1, passL_v _ _ _ _ h.2⟩
theorem vRk_drop {K : Rk} {r : Int} (h : vRk K) : vRk (oDrop K r).2 := by
  unfold oDrop
  by_cases c1 : ¬ (0 ≤ r ∧ r ≤ 2)
  · rw [if_pos c1]
    exact h
  · rw [if_neg c1]
    by_cases c3 : K.1 r = -1
    · rw [if_pos c3]
      exact h
    · rw [if_neg c3]
      exact vRk_m (K := K) (vRk_S h (by omega)) (fun r r0 r1 => (h.1 r r0 r1).2) h.2
/-! tracks, kept -/
theorem v_up {A : Al} {k : Int} {v : Tk × List Tk × Int} (h : vA A) (k0 : 0 ≤ k) (k1 : k ≤ 3) (h1 : v.2.1.length ≤ 4) (h2 : ∀ t, t ∈ v.1 :: v.2.1 → t ∈ (A.2.2.2.1 k).1 :: (A.2.2.2.1 k).2.1) (h3 : v.2.2 = 0 ∨ v.2.2 = 1) : vA (A.1, A.2.1, A.2.2.1, upT A.2.2.2.1 k v, A.2.2.2.2) := by
  refine v_tr h (vTr_up h.tr h1 (fun t ht => (h.tr k k0 k1).2.1 t (h2 t ht)) h3) (fun j j0 j1 t ht p hp => ?_)
  unfold upT at ht
  by_cases e : j = k
  · rw [if_pos e] at ht
    exact h.qt k k0 k1 t (h2 t ht) p hp
  · rw [if_neg e] at ht
    exact h.qt j j0 j1 t ht p hp
theorem v_shut {A : Al} {k : Int} (h : vA A) : vA (A.1, A.2.1, A.2.2.1, (oShut A.2.2.2.1 k).2, A.2.2.2.2) := by
  unfold oShut
  by_cases c1 : ¬ (0 ≤ k ∧ k ≤ 3)
  · rw [if_pos c1]
    exact h
  · rw [if_neg c1]
    have b := h.tr k (by omega) (by omega)
    refine v_up h (by omega) (by omega) b.1 (fun t ht => ht) ?_
    show 1 - (A.2.2.2.1 k).2.2 = 0 ∨ 1 - (A.2.2.2.1 k).2.2 = 1
    omega
theorem v_undo {A : Al} {k : Int} (h : vA A) : vA (A.1, A.2.1, A.2.2.1, (oUndo A.2.2.2.1 k).2, A.2.2.2.2) := by
  unfold oUndo
  by_cases c1 : ¬ (0 ≤ k ∧ k ≤ 3)
  · rw [if_pos c1]
    exact h
  · rw [if_neg c1]
    have b := h.tr k (by omega) (by omega)
    cases e : (A.2.2.2.1 k).2.1 with
    | nil => exact h
    | cons t l =>
      rw [e] at b
      refine v_up h (by omega) (by omega) ?_ (fun x hx => ?_) b.2.2
      · have := b.1
        show l.length ≤ 4
        simp at this
        omega
      · rw [e]
        exact List.mem_cons_of_mem _ hx
theorem v_keep {A : Al} {k : Int} (h : vA A) : vA (A.1, A.2.1, A.2.2.1, A.2.2.2.1, (oKeep A.2.2.2.1 A.2.2.2.2 k).2) := by
  unfold oKeep
  by_cases c1 : ¬ (0 ≤ k ∧ k ≤ 1)
  · rw [if_pos c1]
    exact h
  · rw [if_neg c1]
    refine ⟨h.1, h.2.1, h.2.2.1, h.2.2.2.1, fun j j0 j1 => ?_, fun j j0 j1 => ?_⟩
    · show ((if j = k then (1, fun i => ((A.2.2.2.1 i).1, (A.2.2.2.1 i).2.2)) else A.2.2.2.2 j : Int × (Int → Tk × Int)).1 = 0 ∨ _) ∧ _
      by_cases e : j = k
      · simp only [if_pos e]
        exact ⟨Or.inr trivial, fun _ i i0 i1 => ⟨h.tr.now i0 i1, (h.tr i i0 i1).2.2⟩⟩
      · simp only [if_neg e]
        exact h.kp j j0 j1
    · show (if j = k then (1, fun i => ((A.2.2.2.1 i).1, (A.2.2.2.1 i).2.2)) else A.2.2.2.2 j : Int × (Int → Tk × Int)).1 = 1 → _
      by_cases e : j = k
      · simp only [if_pos e]
        exact fun _ i i0 i1 p hp => h.qn i i0 i1 p hp
      · simp only [if_neg e]
        exact h.qk j j0 j1
theorem v_back {A : Al} {k : Int} (h : vA A) : vA (A.1, A.2.1, A.2.2.1, (oBack A.2.2.2.1 A.2.2.2.2 k).2, A.2.2.2.2) := by
  unfold oBack
  by_cases c1 : ¬ (0 ≤ k ∧ k ≤ 1)
  · rw [if_pos c1]
    exact h
  · rw [if_neg c1]
    by_cases c2 : (A.2.2.2.2 k).1 = 0
    · rw [if_pos c2]
      exact h
    · rw [if_neg c2]
      have b := h.kp k (by omega) (by omega)
      have e1 : (A.2.2.2.2 k).1 = 1 := by omega
      refine v_tr h (fun j j0 j1 => ?_) (fun j j0 j1 => ?_)
      · simp only [if_pos (And.intro j0 j1)]
        have g := b.2 e1 j j0 j1
        refine ⟨by show 0 ≤ 4; omega, fun t ht => ?_, g.2⟩
        rcases List.mem_cons.mp ht with e | e
        · rw [e]
          exact g.1
        · simp at e
      · simp only [if_pos (And.intro j0 j1)]
        intro t ht p hp
        rcases List.mem_cons.mp ht with e | e
        · rw [e] at hp
          exact h.qk k (by omega) (by omega) e1 j j0 j1 p hp
        · simp at e
theorem v_house {A : Al} (h : vA A) : vA (oHouse A).2 := by
  unfold oHouse
  by_cases c1 : (pTx A.2.1 A.1).1 = -1
  · rw [if_pos c1]
    obtain ⟨N, g1, g2, g3, g4⟩ := gd_all (T0 := (A.1.1, A.1.2.1)) h.tx c1
    have g1' : (pTx A.2.1 A.1).2 = N := g1
    have hn : (pTx A.2.1 A.1).2.toNat = N := by omega
    rw [hn]
    obtain ⟨v1, v2, v3, v4, v5⟩ := itN_v ok_id h.sz h.sf h.tr h.qn rfl g4 N (Nat.le_refl N)
    refine ⟨⟨v1, v2⟩, ⟨⟨by show (0 : Int) ≤ 0; omega, by show (0 : Int) ≤ 200; omega⟩, fun i i0 i1 => by replace i1 : i < 0 := i1; omega⟩, ⟨fun r r0 r1 => ⟨⟨by show (-1 : Int) ≤ -1; omega, by show (-1 : Int) ≤ 2; omega⟩, (h.rk.1 r r0 r1).2⟩, h.rk.2⟩, ⟨fun k k0 k1 => ?_, fun k k0 k1 t ht p hp => ?_⟩, fun k k0 k1 => ⟨Or.inl rfl, fun z => ?_⟩, fun k k0 k1 z => ?_⟩
    · have b := v3 k k0 k1
      refine ⟨by show 0 ≤ 4; omega, fun t ht => ?_, b.2.2⟩
      rcases List.mem_cons.mp ht with e | e
      · rw [e]
        exact b.2.1 _ (List.mem_cons_self ..)
      · simp [fgA, wST, fgt] at e
    · rcases List.mem_cons.mp ht with e | e
      · rw [e] at hp
        exact v4 k k0 k1 p hp
      · simp [fgA, wST, fgt] at e
    · replace z : (0 : Int) = 1 := z
      omega
    · replace z : (0 : Int) = 1 := z
      omega
  · rw [if_neg c1]
    exact h
/-! the two halves do not touch each other -/
theorem mA_H {p : Nat → Prop} {u u' : aS} {A : Al} (hf : fA p u u') (hp : ∀ a, p a → ¬ (139 ≤ a ∧ a ≤ 155)) (h : mA u A) : mA u' A := by
  have e : ∀ a, 139 ≤ a ∧ a ≤ 155 → ∀ i, hI u' a i = hI u a i ∧ hF u' a i = hF u a i ∧ hR u' a i = hR u a i := fun a ha => hf.1 a (fun z => hp a z ha)
  obtain ⟨h1, h2, h3, h4, h5, h6⟩ := h
  exact ⟨mS_f (fun i => (e 139 (by omega) i).2.2) h1, mSo_f (e 139 (by omega) _).1 (fun i => (e 141 (by omega) i).1) (fun i => (e 140 (by omega) i).2.1) h2, mTx_f (e 139 (by omega) _).1 (fun i => (e 151 (by omega) i).1) h3, mRk_f (fun i => (e 153 (by omega) i).1) (fun i => (e 154 (by omega) i).1) (fun i => (e 155 (by omega) i).1) h4, mTr_f (fun i => (e 142 (by omega) i).1) (fun i => (e 143 (by omega) i).1) (fun i => (e 144 (by omega) i).1) (fun i => (e 145 (by omega) i).1) h5, mKp_f (fun i => (e 146 (by omega) i).1) (fun i => (e 147 (by omega) i).1) (fun i => (e 148 (by omega) i).1) h6⟩
theorem cA_M {u u' : aS} {A : Al} (hf : fM u u') (h : cA u A) : cA u' A := by
  have f : fA (fun a => 139 ≤ a ∧ a ≤ 155) u u' := ⟨fun a ha i => hf.1 a i ha, Nat.le_of_eq hf.2.symm⟩
  obtain ⟨h1, h2, h3, h4, h5, h6, h7⟩ := h
  exact ⟨cS_f f (fun a => by omega) h1, Nat.le_trans h2 f.2, cSo_f f (fun a => by omega) h3, cTx_f f (fun a => by omega) h4, cRk_f f (fun a => by omega) h5, cTr_f f (fun a => by omega) (fun b => by omega) h6, cKp_f f (by omega) (fun j k j0 k0 => ⟨by omega, by omega, by omega⟩) (fun b => by omega) h7⟩
