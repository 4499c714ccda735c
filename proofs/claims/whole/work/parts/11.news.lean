/-! new cells -/
theorem aRep_grow {g : aG} {u u' : aS} {H H' : Heap} (k : Nat) (h : aRep g u H) (hn : nx u' = nx u + k) (ho : ∀ b i, b < nx u → hI u' b i = hI u b i ∧ hF u' b i = hF u b i ∧ hR u' b i = hR u b i) (hi : ∀ b i, nx u ≤ b → hI u' b i = 0 ∧ hF u' b i = 0)
    (hr : ∀ b i r, nx u ≤ b → hR u' b i = some r → r < nx u + k) (hdf : ∀ b i, nx u + k ≤ b → hR u' b i = none) (z : H'.size = H.size + k) (o : ∀ q, q < H.size → H'[q]? = H[q]?) (hc : ∀ b, nx u ≤ b → b < nx u + k → ck g u' H' b) : aRep g u' H' := by
  obtain ⟨⟨h8, hsz⟩, hck, hold, hir, hrr, hdf0, hsc⟩ := h
  refine ⟨⟨by rw [hn]; omega, by rw [z, hn, hsz]; omega⟩, fun b hb hbl => ?_, fun q hq => ?_, fun b i => ?_, fun b i r hbr => ?_, fun b hb i => ?_, ?_⟩
  · by_cases hbn : b < nx u
    · exact ck_same (hck b hb hbn) (fun i => ho b i hbn) (o _ (by rw [rho_8 hb, hsz]; omega))
    · exact hc b (by omega) (by rw [← hn]; exact hbl)
  · rw [o q (by omega)]
    exact hold q hq
  · by_cases hbn : b < nx u
    · rw [(ho b i hbn).1]; exact hir b i
    · rw [(hi b i (by omega)).1]; exact i_rg0
  · rw [hn]
    by_cases hbn : b < nx u
    · rw [(ho b i hbn).2.2] at hbr
      have := hrr b i r hbr
      omega
    · exact hr b i r (by omega) hbr
  · rw [hn] at hb
    exact ⟨(hi b i (by omega)).1, (hi b i (by omega)).2, hdf b i hb⟩
  · have h0 : 0 < nx u := by omega
    refine ⟨by rw [(ho 0 _ h0).1]; exact hsc.1, fun j hj => by rw [(ho 0 _ h0).1]; exact hsc.2 j hj⟩
theorem aRep_nw {g : aG} {u : aS} {H H' : Heap} (h : aRep g u H) (z : H'.size = H.size + 1) (o : ∀ q, q < H.size → H'[q]? = H[q]?) (hc : ck g (nw u 1) H' (nx u)) : aRep g (nw u 1) H' := by
  have hd := h.2.2.2.2.2.1
  refine aRep_grow 1 h rfl (fun b i _ => ⟨rfl, rfl, rfl⟩) (fun b i hb => ⟨(hd b hb i).1, (hd b hb i).2.1⟩) (fun b i r hb hr => ?_) (fun b i hb => (hd b (by omega) i).2.2) z o (fun b h1 h2 => ?_)
  · rw [hR_nw, (hd b hb i).2.2] at hr
    cases hr
  · have : b = nx u := by omega
    subst this
    exact hc
theorem rho_nx {g : aG} {u : aS} {H : Heap} (h : aRep g u H) : rho g (nx u) = H.size := by
  rw [rho_8 h.1.1, h.1.2]
theorem fv_new {g : aG} {u : aS} {H : Heap} (h : aRep g u H) {b : Nat} (hb : nx u ≤ b) {ty : FieldType} (hty : ty = .int ∨ ty = .boolean ∨ ty = .float ∨ rty ty) (i : Int) : fv g u b ty i = defaultValue ty := by
  obtain ⟨d1, d2, d3⟩ := h.2.2.2.2.2.1 b hb i
  rcases hty with e | e | e | ⟨C, e⟩ | ⟨C, e⟩ <;> subst e
  · show Value.int (Int32.ofInt (hI u b i)) = _; rw [d1]; rfl
  · show Value.int (Int32.ofInt (hI u b i)) = _; rw [d1]; rfl
  · show Value.float (hF u b i) = _; rw [d2]; rfl
  · show ar g (hR u b i) = _; rw [d3]; rfl
  · show ar g (hR u b i) = _; rw [d3]; rfl
theorem tyk_kind : ∀ k, k < 9 → ∀ f, f < nf k → (tyk k f = .int ∨ tyk k f = .boolean ∨ tyk k f = .float) ∨ (tyk k f).isReference = true := by decide +kernel
theorem isRef_rty {ty : FieldType} (h : ty.isReference = true) : rty ty := by
  cases ty with
  | object C => exact Or.inl ⟨C, rfl⟩
  | array t => exact Or.inr ⟨t, rfl⟩
  | _ => cases h
theorem tyk_4 (k f : Nat) (hk : k < 9) (hf : f < nf k) : tyk k f = .int ∨ tyk k f = .boolean ∨ tyk k f = .float ∨ rty (tyk k f) := by
  rcases tyk_kind k hk f hf with (h | h | h) | h
  · exact Or.inl h
  · exact Or.inr (Or.inl h)
  · exact Or.inr (Or.inr (Or.inl h))
  · exact Or.inr (Or.inr (Or.inr (isRef_rty h)))
theorem kd_len (a : Nat) : (kd a).2 ≤ 1376 := by
  by_cases ha : a < 156
  · have key : ∀ a, a < 156 → (kd a).2 ≤ 1376 := by decide +kernel
    exact key a ha
  · rw [kd_hi (by omega)]; decide
theorem st_new {own : String} {bytes : ByteArray} {ret : Option FieldType} {nm : String} {nL lv pc n : Nat} {k z idx : Nat} {C : String} {T : u_T} {N : Nat} (hk : k < 9) (hc : vwC[k]? = some (C, T, N)) (hd : decode bytes pc = .ok (.new idx, 3)) (hn : pc + 3 = n) (w1 : Cond.classLink own idx C ∈ lw_g) (w2 : Cond.instantiable C N ∈ lw_g) (w3 : Cond.initialized C ∈ lw_g) : SOK own bytes ret nm nL lv pc (x_new k z n) := by
  intro g p l e R s m args below meth c call Q n0 hC hO P' hP L st u cc ss hq H ls locs cells slots hRp hl hoL hoS hlo h1 h2 h0
  obtain ⟨hx, hb, hr, hml, hown, hts, hlk, hnm, hK, hfr, hlw⟩ := hC
  subst hn
  obtain ⟨hkd, hq⟩ := hq
  obtain ⟨c', hc', hq⟩ := z_co hq
  obtain ⟨s', hs', hq⟩ := z_co hq
  have hN : N = nf k := nf_ok k hk _ hc
  have hz : z = N := by
    have h9 := kd_obj (nx u) (by rw [hkd]; exact hk)
    rw [hkd] at h9
    rw [hN]; exact h9
  subst hz
  have hKn := hK.1.1 k _ hc
  refine W.newcK hx hb hown (hts _ w1) (hts _ w2) (hts _ w3) rfl hd (by omega) (by omega) hKn.2.1 (h := H.size) rfl fun H' kC hkC e1 z1 o1 => ?_
  have hob := u_born (tyk k) hts (hin_all k hk _ hc) hKn hkC e1 (tyk_ok k hk _ hc)
  have hrep : aRep g (nw u 1) H' := aRep_nw hRp z1 o1 (ck_obj' (k := k) (by rw [hkd]) hk (by
    rw [rho_nx hRp, ← hN]
    refine hob.to (fun j hj => ?_)
    show _ = fv g u (nx u) (tyk k j) j
    exact (fv_new hRp (Nat.le_refl _) (tyk_4 k j hk (by rw [← hN]; exact hj)) j).symm))
  have hk2 := hP _ _ _ _ _ _ hq H' ls locs (cells + 1) (slots + z) hrep hl (aok_mono (by rw [nx_nw]; omega) hoL) (aok_cons.mpr ⟨fun b hb2 => by cases hb2; rw [nx_nw]; omega, aok_mono (by rw [nx_nw]; omega) hoS⟩) hlo (by omega) (by omega) (by rw [nx_nw]; omega)
  rw [List.map_cons, show av g (vR (nx u)) = .ref H.size from congrArg Value.ref (rho_nx hRp)] at hk2
  exact hk2
theorem st_newa {own : String} {bytes : ByteArray} {ret : Option FieldType} {nm : String} {nL lv pc n : Nat} {k : Nat} {atype : ArrayType} (hk1 : 20 ≤ k) (hk2 : k ≤ 22) (hat : newarray.typeOf atype = ety k) (hd : decode bytes pc = .ok (.newarray atype, 2)) (hn : pc + 2 = n) (w1 : Cond.arrayClass (newarray.typeOf atype) ∈ lw_g) : SOK own bytes ret nm nL lv pc (x_newa k n) := by
  intro g p l e R s m args below meth c call Q n0 hC hO P' hP L st u cc ss hq H ls locs cells slots hRp hl hoL hoS hlo h1 h2 h0
  obtain ⟨hx, hb, hr, hml, hown, hts, hlk, hnm, hK, hfr, hlw⟩ := hC
  subst hn
  unfold x_newa at hq
  split at hq
  · rename_i i st'
    obtain ⟨oi, oS⟩ := aok_cons.mp hoS
    obtain ⟨⟨hi0, hkd⟩, hq⟩ := hq
    obtain ⟨c', hc', hq⟩ := z_co hq
    obtain ⟨s', hs', hq⟩ := z_co hq
    have hlen : i.toNat ≤ 1376 := by have h9 := kd_len (nx u); rw [hkd] at h9; exact h9
    have hcb : componentBytes (newarray.typeOf atype) ≤ 8 := by rw [hat]; rcases (show k = 20 ∨ k = 21 ∨ k = 22 by omega) with e | e | e <;> subst e <;> decide
    have hmul : i.toNat * componentBytes (newarray.typeOf atype) ≤ 1376 * 8 := Nat.mul_le_mul hlen hcb
    refine va_newaK hx hb (hts _ w1) rfl hd rfl (by rw [i_0, i_lt oi i_rg0]; omega) (i_nat oi) (by omega) (by omega) (by omega) (h := H.size) rfl fun H' cA e1 z1 o1 hAr hNm => ?_
    have hcA : cA = g.2.2.1 k := by
      have hRA := (hK.1.2 _ _ (tyL_at g k (by omega) (by omega))).2
      rw [hat] at hNm
      rcases (show k = 20 ∨ k = 21 ∨ k = 22 by omega) with e | e | e <;> subst e <;> exact Option.some.inj (hNm.symm.trans hRA)
    subst hcA
    have hty : ety k = .int ∨ ety k = .boolean ∨ ety k = .float ∨ rty (ety k) := by
      rcases (show k = 20 ∨ k = 21 ∨ k = 22 by omega) with e | e | e <;> subst e
      · exact Or.inl rfl
      · exact Or.inr (Or.inr (Or.inl rfl))
      · exact Or.inr (Or.inl rfl)
    have hrep : aRep g (nw u 1) H' := aRep_nw hRp z1 o1 (ck_arr' hkd hk1 (by omega) (by
      rw [rho_nx hRp, e1, hat]
      congr 2
      funext j
      exact (fv_new hRp (Nat.le_refl _) hty j).symm))
    have hk2 := hP _ _ _ _ _ _ hq H' ls locs (cells + 1) (slots + i.toNat) hrep hl (aok_mono (by rw [nx_nw]; omega) hoL) (aok_cons.mpr ⟨fun b hb2 => by cases hb2; rw [nx_nw]; omega, aok_mono (by rw [nx_nw]; omega) oS⟩) hlo (by omega) (by omega) (by rw [nx_nw]; omega)
    rw [List.map_cons, show av g (vR (nx u)) = .ref H.size from congrArg Value.ref (rho_nx hRp)] at hk2
    exact hk2
  · exact hq.elim
theorem st_newr {own : String} {bytes : ByteArray} {ret : Option FieldType} {nm : String} {nL lv pc n : Nat} {k idx : Nat} {C : String} (hk1 : 23 ≤ k) (hk2 : k ≤ 26) (hty : ety k = .object C) (hao : ∀ s, aoS s → va_AO C s) (hd : decode bytes pc = .ok (.anewarray idx, 3)) (hn : pc + 3 = n) (w1 : Cond.classLink own idx C ∈ lw_g) : SOK own bytes ret nm nL lv pc (x_newa k n) := by
  intro g p l e R s m args below meth c call Q n0 hC hO P' hP L st u cc ss hq H ls locs cells slots hRp hl hoL hoS hlo h1 h2 h0
  obtain ⟨hx, hb, hr, hml, hown, hts, hlk, hnm, hK, hfr, hlw⟩ := hC
  subst hn
  unfold x_newa at hq
  split at hq
  · rename_i i st'
    obtain ⟨oi, oS⟩ := aok_cons.mp hoS
    obtain ⟨⟨hi0, hkd⟩, hq⟩ := hq
    obtain ⟨c', hc', hq⟩ := z_co hq
    obtain ⟨s', hs', hq⟩ := z_co hq
    have hlen : i.toNat ≤ 1376 := by have h9 := kd_len (nx u); rw [hkd] at h9; exact h9
    have hnat := i_nat oi
    refine W.anew hx hb hown (hts _ w1) (va_AO.use (hao s hK.2.2.2.1)) rfl hd rfl (by rw [i_0, i_lt oi i_rg0]; omega) (by rw [hnat]; omega) (by omega) (by rw [hnat]; omega) fun cA kA comp f1 f2 f3 f4 => ?_
    rw [hnat]
    generalize hH1 : H.push ({ cls := cA, slots := Array.replicate i.toNat .null, vm := .none } : Cell) = H'
    have z1 : H'.size = H.size + 1 := by rw [← hH1, Array.size_push]
    have e1 : H'[H.size]? = some (arrV cA i.toNat (fun _ => .null)) := by rw [← hH1, Array.getElem?_push_size, ← arrV_new]
    have o1 : ∀ q : Nat, q < H.size → H'[q]? = H[q]? := fun q hq => by rw [← hH1, Array.getElem?_push, if_neg (Nat.ne_of_lt hq)]
    have hcA : cA = g.2.2.1 k := by
      have hRA := (hK.1.2 _ _ (tyL_at g k (by omega) (by omega))).2
      rw [hty] at hRA
      obtain ⟨kA', comp', a1, a2, a3, a4⟩ := hRA
      exact Option.some.inj (f1.symm.trans a4)
    subst hcA
    have hrep : aRep g (nw u 1) H' := aRep_nw hRp z1 o1 (ck_arr' hkd (by omega) (by omega) (by
      rw [rho_nx hRp, e1]
      congr 2
      funext j
      have := fv_new hRp (Nat.le_refl _) (Or.inr (Or.inr (Or.inr (ety_r k hk1 (by omega))))) (j : Int)
      show _ = fv g u (nx u) (ety k) j
      rw [this, hty]
      rfl))
    have hk2 := hP _ _ _ _ _ _ hq H' ls locs (cells + 1) (slots + i.toNat) hrep hl (aok_mono (by rw [nx_nw]; omega) hoL) (aok_cons.mpr ⟨fun b hb2 => by cases hb2; rw [nx_nw]; omega, aok_mono (by rw [nx_nw]; omega) oS⟩) hlo (by omega) (by omega) (by rw [nx_nw]; omega)
    rw [List.map_cons, show av g (vR (nx u)) = .ref H.size from congrArg Value.ref (rho_nx hRp)] at hk2
    exact hk2
  · exact hq.elim
theorem mn_outer (c : ClassId) (N h0 : Nat) : ∀ i : Nat, Jvm.Free.Multi.outerC c N h0 i = arrV c N (fun j => if j < i then .ref (h0 + 1 + j) else .null)
  | 0 => by
    show ({ cls := c, slots := Array.replicate N .null, vm := .none } : Cell) = _
    rw [arrV_new]
    refine congrArg (arrV c N) (funext fun j => ?_)
    simp
  | i + 1 => by
    show (Jvm.Free.Multi.outerC c N h0 i).setSlot i (.ref (h0 + 1 + i)) = _
    rw [mn_outer c N h0 i, arrV_store]
    refine congrArg (arrV c N) (funext fun j => ?_)
    unfold updV
    by_cases e : j = i
    · subst e
      rw [if_pos rfl, if_pos (by omega)]
    · rw [if_neg e]
      show (if j < i then Value.ref (h0 + 1 + j) else Value.null) = _
      by_cases h : j < i
      · rw [if_pos h, if_pos (by omega)]
      · rw [if_neg h, if_neg (by omega)]
theorem st_mnew {own : String} {bytes : ByteArray} {ret : Option FieldType} {nm : String} {nL lv pc n : Nat} {k ke idx : Nat} {ty : FieldType} (hk : (k = 27 ∧ ke = 20 ∧ ty = .int) ∨ (k = 28 ∧ ke = 21 ∧ ty = .float)) (hao : ∀ s, aoS s → (Cond.arrayOver (.array ty)).before #[] s = true) (hd : decode bytes pc = .ok (.multianewarray idx 2, 4)) (hn : pc + 4 = n) (w1 : Cond.classLink own idx ("[" ++ (FieldType.array ty).toString) ∈ lw_g) (w2 : Cond.arrayClass ty ∈ lw_g) : SOK own bytes ret nm nL lv pc (x_mnew k ke n) := by
  intro g p l e R s m args below meth c call Q n0 hC hO P' hP L st u cc ss hq H ls locs cells slots hRp hl hoL hoS hlo h1 h2 h0
  obtain ⟨hx, hb, hr, hml, hown, hts, hlk, hnm, hK, hfr, hlw⟩ := hC
  subst hn
  unfold x_mnew at hq
  split at hq
  · rename_i j i st'
    obtain ⟨oj, oS⟩ := aok_cons.mp hoS
    obtain ⟨oi, oS⟩ := aok_cons.mp oS
    obtain ⟨⟨hi0, hj0, hkd, hkr⟩, hq⟩ := hq
    obtain ⟨c', hc', hq⟩ := z_co hq
    obtain ⟨s', hs', hq⟩ := z_co hq
    have hni := i_nat oi
    have hnj := i_nat oj
    have hlen : i.toNat ≤ 1376 := by have h9 := kd_len (nx u); rw [hkd] at h9; exact h9
    have hb20 : 20 ≤ k ∧ k ≤ 28 ∧ 20 ≤ ke ∧ ke ≤ 28 ∧ ety k = .array ty ∧ ety ke = ty ∧ 23 ≤ k := by
      rcases hk with ⟨e1, e2, e3⟩ | ⟨e1, e2, e3⟩ <;> subst e1 <;> subst e2 <;> subst e3 <;> exact ⟨by omega, by omega, by omega, by omega, rfl, rfl, by omega⟩
    obtain ⟨k1, k2, k3, k4, k5, k6, k7⟩ := hb20
    have hcb : componentBytes ty ≤ 8 := by
      rcases hk with ⟨-, -, e3⟩ | ⟨-, -, e3⟩ <;> subst e3 <;> decide
    have hjl : i.toNat = 0 ∨ j.toNat ≤ 1376 := by
      by_cases h0 : i.toNat = 0
      · exact Or.inl h0
      · have h9 := kd_len (nx u + 1 + 0)
        rw [hkr 0 (by omega)] at h9
        exact Or.inr h9
    have hjl2 : j.toNat ≤ 2147483647 := by have := oj.2; omega
    by_cases hz : i.toNat = 0
    · exfalso
      rcases hk with ⟨e1, -, -⟩ | ⟨e1, -, -⟩ <;> subst e1
      · have key : ∀ a, a < 156 → (kd a).1 = 27 → (kd a).2 = 24 := by decide +kernel
        by_cases ha : nx u < 156
        · have := key _ ha (by rw [hkd])
          rw [hkd] at this
          simp at this
          omega
        · rw [kd_hi (by omega)] at hkd; cases hkd
      · have key : ∀ a, a < 156 → (kd a).1 = 28 → (kd a).2 = 6 := by decide +kernel
        by_cases ha : nx u < 156
        · have := key _ ha (by rw [hkd])
          rw [hkd] at this
          simp at this
          omega
        · rw [kd_hi (by omega)] at hkd; cases hkd
    have hjl : j.toNat ≤ 1376 := by omega
    have hmul : j.toNat * componentBytes ty ≤ 1376 * 8 := Nat.mul_le_mul hjl hcb
    have hdv : fits ty (defaultValue ty) = true ∧ (defaultValue ty).isDefault = true := by
      rcases hk with ⟨-, -, e3⟩ | ⟨-, -, e3⟩ <;> subst e3 <;> exact ⟨rfl, rfl⟩
    intro T hT X
    obtain ⟨vm₁, cA, comp, -, fA, fC, -, -, X', step⟩ := X.multianewarray2F hx hown (hts _ w1) (show (Cond.arrayOver (.array ty)).before args s = true from hao s hK.2.2.2.1) (hts _ w2) (g := F0 m pc ls (.int (Int32.ofInt j) :: .int (Int32.ofInt i) :: st'.map (av g))) rfl (by rw [hb]; exact hd) rfl (by rw [i_0, i_lt oi i_rg0]; omega) (by rw [i_0, i_lt oj i_rg0]; omega) (by rw [hni]; omega) (by rw [hnj]; omega) (by rw [hnj]; omega) hdv.1 hdv.2 (by rw [hni]; omega) (by rw [hni, hnj]; omega)
    rw [hni, hnj] at X' step
    have hcA : cA = g.2.2.1 k := by
      have hRA := (hK.1.2 _ _ (tyL_at g k k1 k2)).2
      rw [k5] at hRA
      exact Option.some.inj (fA.symm.trans hRA)
    have hcE : comp = g.2.2.1 ke := by
      have hRA := (hK.1.2 _ _ (tyL_at g ke k3 k4)).2
      rw [k6] at hRA
      rcases hk with ⟨-, -, e3⟩ | ⟨-, -, e3⟩ <;> subst e3 <;> exact Option.some.inj (fC.symm.trans hRA)
    subst hcA
    subst hcE
    generalize hF : Jvm.Free.Multi.fill (T.setVm vm₁) (g.2.2.1 k) (g.2.2.1 ke) i.toNat j.toNat (defaultValue ty) i.toNat = F at X' step
    have hTh : (T.setVm vm₁).heap = H := hT
    obtain ⟨f1, f2, -, -⟩ := Jvm.Free.Multi.fill_facts (T.setVm vm₁) (g.2.2.1 k) (g.2.2.1 ke) i.toNat j.toNat (defaultValue ty) i.toNat
    rw [hF, hTh] at f1 f2
    have hold : ∀ x : Nat, x < H.size → F.heap[x]? = H[x]? := fun x hx => by
      have := Jvm.Free.Multi.fill_old (T.setVm vm₁) (g.2.2.1 k) (g.2.2.1 ke) i.toNat j.toNat (defaultValue ty) (a := x) (by rw [hTh]; exact hx) i.toNat
      rw [hF, hTh] at this
      exact this
    have hrow : ∀ q : Nat, q < i.toNat → F.heap[H.size + 1 + q]? = some (arrV (g.2.2.1 ke) j.toNat (fun _ => defaultValue ty)) := fun q hq => by
      have := Jvm.Free.Multi.fill_inner (T.setVm vm₁) (g.2.2.1 k) (g.2.2.1 ke) i.toNat j.toNat (defaultValue ty) i.toNat q hq
      rw [hF, hTh] at this
      rw [this, ← arrV_new]
      rfl
    rw [mn_outer] at f2
    have hd9 := hRp.2.2.2.2.2.1
    have hnm : nx (nmr u i.toNat) = nx u + (1 + i.toNat) := by
      show u.2.2.2 + 1 + i.toNat = u.2.2.2 + (1 + i.toNat)
      omega
    have hRm : ∀ b q, hR (nmr u i.toNat) b q = if b = nx u ∧ 0 ≤ q ∧ q < i.toNat then some (nx u + 1 + q.toNat) else hR u b q := fun b q => rfl
    have hrep : aRep g (nmr u i.toNat) F.heap := by
      refine aRep_grow (1 + i.toNat) hRp hnm (fun b q hb2 => ⟨rfl, rfl, by rw [hRm, if_neg (by omega)]⟩) (fun b q hb2 => ⟨(hd9 b hb2 q).1, (hd9 b hb2 q).2.1⟩) (fun b q r hb2 hr2 => ?_) (fun b q hb2 => by rw [hRm, if_neg (by omega)]; exact (hd9 b (by omega) q).2.2) (by rw [f1]; omega) hold (fun b hb1 hb2 => ?_)
      · rw [hRm] at hr2
        split at hr2
        · cases hr2; omega
        · rw [(hd9 b hb2 q).2.2] at hr2; cases hr2
      · by_cases eb : b = nx u
        · subst eb
          refine ck_arr' hkd k1 k2 ?_
          rw [rho_nx hRp, f2]
          congr 2
          funext q
          rw [fv_ref (ety_r k k7 k2), hRm]
          by_cases hq2 : q < i.toNat
          · rw [if_pos hq2, if_pos ⟨rfl, by omega, by omega⟩]
            have h88 := hRp.1.1
            have hs9 := hRp.1.2
            have e7 : rho g (nx u + 1 + (q : Int).toNat) = H.size + 1 + q := by
              rw [rho_8 (by omega), hs9]
              omega
            exact congrArg Value.ref e7.symm
          · rw [if_neg hq2, if_neg (by omega), (hd9 _ (Nat.le_refl _) q).2.2]
            rfl
        · have hb3 : b = nx u + 1 + (b - nx u - 1) := by omega
          have hkb := hkr (b - nx u - 1) (by omega)
          rw [← hb3] at hkb
          refine ck_arr' hkb k3 k4 ?_
          have hr9 := hrow (b - nx u - 1) (by omega)
          rw [rho_8 (by have := hRp.1.1; omega)]
          rw [show (gH g).size + (b - 8) = H.size + 1 + (b - nx u - 1) by rw [hRp.1.2]; have := hRp.1.1; omega, hr9]
          congr 2
          funext q
          have e2 : fv g (nmr u i.toNat) b (ety ke) q = fv g u b (ety ke) q := fv_same (g := g) (u := u) (u' := nmr u i.toNat) (fun i2 => ⟨rfl, rfl, (hRm b i2).trans (if_neg (fun h9 : b = nx u ∧ 0 ≤ i2 ∧ i2 < i.toNat => eb h9.1))⟩) _ _
          rw [e2, fv_new hRp hb1 (by rw [k6]; rcases hk with ⟨-, -, e3⟩ | ⟨-, -, e3⟩ <;> subst e3; exact Or.inl rfl; exact Or.inr (Or.inr (Or.inl rfl))), k6]
    have hk2 := hP _ _ _ _ _ _ hq F.heap ls locs (cells + 1 + i.toNat) (slots + i.toNat + i.toNat * j.toNat) hrep hl (aok_mono (by rw [hnm]; omega) hoL) (aok_cons.mpr ⟨fun b hb2 => by cases hb2; rw [hnm]; omega, aok_mono (by rw [hnm]; omega) oS⟩) hlo (by omega) (by omega) (by rw [hnm]; omega)
    rw [List.map_cons, show av g (vR (nx u)) = .ref H.size from congrArg Value.ref (rho_nx hRp)] at hk2
    obtain ⟨t, a1, b1⟩ := hk2 F rfl X'
    refine ⟨t, step t ?_, b1⟩
    have e9 : T.heap.size = H.size := by rw [hT]
    rw [e9]
    exact a1
  · exact hq.elim
