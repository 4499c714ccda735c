/-! rows -/
theorem tyL_at (g : aG) : ∀ k, 20 ≤ k → k ≤ 28 → (tyL g)[k - 20]? = some (g.2.2.1 k, ety k) := by
  intro k h1 h2
  have : k = 20 ∨ k = 21 ∨ k = 22 ∨ k = 23 ∨ k = 24 ∨ k = 25 ∨ k = 26 ∨ k = 27 ∨ k = 28 := by omega
  rcases this with h | h | h | h | h | h | h | h | h <;> subst h <;> rfl
theorem ety_r : ∀ k, 23 ≤ k → k ≤ 28 → rty (ety k) := by
  intro k h1 h2
  have : k = 23 ∨ k = 24 ∨ k = 25 ∨ k = 26 ∨ k = 27 ∨ k = 28 := by omega
  rcases this with h | h | h | h | h | h <;> subst h
  · exact Or.inl ⟨_, rfl⟩
  · exact Or.inl ⟨_, rfl⟩
  · exact Or.inl ⟨_, rfl⟩
  · exact Or.inl ⟨_, rfl⟩
  · exact Or.inr ⟨_, rfl⟩
  · exact Or.inr ⟨_, rfl⟩
theorem rty_isRef {ty : FieldType} (h : rty ty) : ty.isReference = true := by
  rcases h with ⟨C, h⟩ | ⟨C, h⟩ <;> subst h <;> rfl
theorem row_read {g : aG} {u : aS} {a k n : Nat} {i : Int} (oi : i_rg i) (h0 : 0 ≤ i) (h1 : i < n) : (arrV (g.2.2.1 k) n (fun j => fv g u a (ety k) j)).slots[(Int32.ofInt i).toNatClampNeg]? = some (fv g u a (ety k) i) := by
  rw [i_nat oi, arrV_read _ _ (by omega), Int.toNat_of_nonneg h0]
theorem row_in {g : aG} {u : aS} {a k n : Nat} {i : Int} (oi : i_rg i) (h0 : 0 ≤ i) (h1 : i < n) : ¬ (Int32.ofInt i < 0 ∨ (arrV (g.2.2.1 k) n (fun j => fv g u a (ety k) j)).slots.size ≤ (Int32.ofInt i).toNatClampNeg) := by
  rw [arrV_size]
  exact i_in oi h0 h1
theorem row_set {g : aG} {u u' : aS} {H' : Heap} {a k n : Nat} {i : Int} {v : Value} (oi : i_rg i) (h0 : 0 ≤ i) (he : H'[rho g a]? = some ((arrV (g.2.2.1 k) n (fun j => fv g u a (ety k) j)).setSlot (Int32.ofInt i).toNatClampNeg v)) (hf : ∀ j : Int, fv g u' a (ety k) j = if j = i then v else fv g u a (ety k) j) : H'[rho g a]? = some (arrV (g.2.2.1 k) n (fun j => fv g u' a (ety k) j)) := by
  rw [he, i_nat oi, arrV_store]
  congr 2
  funext j
  unfold updV
  rw [hf]
  by_cases ej : j = i.toNat
  · rw [if_pos ej, if_pos (by omega)]
  · rw [if_neg ej, if_neg (by omega)]
theorem st_iald {own : String} {bytes : ByteArray} {ret : Option FieldType} {nm : String} {nL lv pc n : Nat} (hd : decode bytes pc = .ok (.iaload, 1)) (hn : pc + 1 = n) : SOK own bytes ret nm nL lv pc (x_iald n) := by
  intro g p l e R s m args below meth c call Q n0 hC hO P' hP L st u cc ss hq H ls locs cells slots hRp hl hoL hoS hlo h1 h2 h0
  obtain ⟨hx, hb, hr, hml, hown, hts, hlk, hnm, hK, hfr, hlw⟩ := hC
  subst hn
  unfold x_iald at hq
  split at hq
  · rename_i i a st'
    obtain ⟨oi, oS⟩ := aok_cons.mp hoS
    obtain ⟨oa, oS⟩ := aok_cons.mp oS
    obtain ⟨nn, hkd, hi0, hi1, hq⟩ := hq
    have h8 : 8 ≤ a := kd_8 (by rw [hkd]) (show 20 ≤ 28 by omega)
    have hcell := ck_arr (hRp.2.1 a h8 (oa a rfl)) hkd (by omega) (by omega)
    have harr := (hK.1.2 _ _ (tyL_at g 20 (by omega) (by omega))).1 nn (fun j => fv g u a (ety 20) j)
    exact W.iald hx hb hcell harr (fun h => by cases h) (row_in oi hi0 hi1) (row_read oi hi0 hi1) rfl rfl hd (hP _ _ _ _ _ _ hq H ls locs cells slots hRp hl hoL (aok_cons.mpr ⟨hRp.2.2.2.1 a i, oS⟩) hlo h1 h2 h0)
  · exact hq.elim
theorem st_zald {own : String} {bytes : ByteArray} {ret : Option FieldType} {nm : String} {nL lv pc n : Nat} (hd : decode bytes pc = .ok (.baload, 1)) (hn : pc + 1 = n) : SOK own bytes ret nm nL lv pc (x_zald n) := by
  intro g p l e R s m args below meth c call Q n0 hC hO P' hP L st u cc ss hq H ls locs cells slots hRp hl hoL hoS hlo h1 h2 h0
  obtain ⟨hx, hb, hr, hml, hown, hts, hlk, hnm, hK, hfr, hlw⟩ := hC
  subst hn
  unfold x_zald at hq
  split at hq
  · rename_i i a st'
    obtain ⟨oi, oS⟩ := aok_cons.mp hoS
    obtain ⟨oa, oS⟩ := aok_cons.mp oS
    obtain ⟨nn, hkd, hi0, hi1, hq⟩ := hq
    have h8 : 8 ≤ a := kd_8 (by rw [hkd]) (show 22 ≤ 28 by omega)
    have hcell := ck_arr (hRp.2.1 a h8 (oa a rfl)) hkd (by omega) (by omega)
    have harr := (hK.1.2 _ _ (tyL_at g 22 (by omega) (by omega))).1 nn (fun j => fv g u a (ety 22) j)
    exact W.zald hx hb hcell harr (fun h => by cases h) (row_in oi hi0 hi1) (row_read oi hi0 hi1) rfl rfl hd (hP _ _ _ _ _ _ hq H ls locs cells slots hRp hl hoL (aok_cons.mpr ⟨hRp.2.2.2.1 a i, oS⟩) hlo h1 h2 h0)
  · exact hq.elim
theorem st_fald {own : String} {bytes : ByteArray} {ret : Option FieldType} {nm : String} {nL lv pc n : Nat} (hd : decode bytes pc = .ok (.faload, 1)) (hn : pc + 1 = n) : SOK own bytes ret nm nL lv pc (x_fald n) := by
  intro g p l e R s m args below meth c call Q n0 hC hO P' hP L st u cc ss hq H ls locs cells slots hRp hl hoL hoS hlo h1 h2 h0
  obtain ⟨hx, hb, hr, hml, hown, hts, hlk, hnm, hK, hfr, hlw⟩ := hC
  subst hn
  unfold x_fald at hq
  split at hq
  · rename_i i a st'
    obtain ⟨oi, oS⟩ := aok_cons.mp hoS
    obtain ⟨oa, oS⟩ := aok_cons.mp oS
    obtain ⟨nn, hkd, hi0, hi1, hq⟩ := hq
    have h8 : 8 ≤ a := kd_8 (by rw [hkd]) (show 21 ≤ 28 by omega)
    have hcell := ck_arr (hRp.2.1 a h8 (oa a rfl)) hkd (by omega) (by omega)
    have harr := (hK.1.2 _ _ (tyL_at g 21 (by omega) (by omega))).1 nn (fun j => fv g u a (ety 21) j)
    exact W.fald hx hb hcell harr (fun h => by cases h) (row_in oi hi0 hi1) (row_read oi hi0 hi1) rfl rfl hd (hP _ _ _ _ _ _ hq H ls locs cells slots hRp hl hoL (aok_cons.mpr ⟨trivial, oS⟩) hlo h1 h2 h0)
  · exact hq.elim
theorem st_aald {own : String} {bytes : ByteArray} {ret : Option FieldType} {nm : String} {nL lv pc n : Nat} {k : Nat} (hk1 : 23 ≤ k) (hk2 : k ≤ 28) (hd : decode bytes pc = .ok (.aaload, 1)) (hn : pc + 1 = n) : SOK own bytes ret nm nL lv pc (x_aald k n) := by
  intro g p l e R s m args below meth c call Q n0 hC hO P' hP L st u cc ss hq H ls locs cells slots hRp hl hoL hoS hlo h1 h2 h0
  obtain ⟨hx, hb, hr, hml, hown, hts, hlk, hnm, hK, hfr, hlw⟩ := hC
  subst hn
  unfold x_aald at hq
  split at hq
  · rename_i i a st'
    obtain ⟨oi, oS⟩ := aok_cons.mp hoS
    obtain ⟨oa, oS⟩ := aok_cons.mp oS
    obtain ⟨nn, hkd, hi0, hi1, r, hrr, hq⟩ := hq
    subst hrr
    have h8 : 8 ≤ a := kd_8 (by rw [hkd]) (show k ≤ 28 by omega)
    have hcell := ck_arr (hRp.2.1 a h8 (oa a rfl)) hkd (by omega) (by omega)
    have harr := (hK.1.2 _ _ (tyL_at g k (by omega) (by omega))).1 nn (fun j => fv g u a (ety k) j)
    have hty := ety_r k hk1 hk2
    refine W.aald hx hb hcell harr (rty_isRef hty) (fun h => by cases h) (row_in oi hi0 hi1) (row_read oi hi0 hi1) rfl rfl hd ?_
    rw [fv_ref hty]
    exact hP _ _ _ _ _ _ hq H ls locs cells slots hRp hl hoL (aok_cons.mpr ⟨fun b hb => hRp.2.2.2.2.1 a i b hb, oS⟩) hlo h1 h2 h0
  · exact hq.elim
theorem st_iast {own : String} {bytes : ByteArray} {ret : Option FieldType} {nm : String} {nL lv pc n : Nat} (hd : decode bytes pc = .ok (.iastore, 1)) (hn : pc + 1 = n) : SOK own bytes ret nm nL lv pc (x_iast n) := by
  intro g p l e R s m args below meth c call Q n0 hC hO P' hP L st u cc ss hq H ls locs cells slots hRp hl hoL hoS hlo h1 h2 h0
  obtain ⟨hx, hb, hr, hml, hown, hts, hlk, hnm, hK, hfr, hlw⟩ := hC
  subst hn
  unfold x_iast at hq
  split at hq
  · rename_i x i a st'
    obtain ⟨ox, oS⟩ := aok_cons.mp hoS
    obtain ⟨oi, oS⟩ := aok_cons.mp oS
    obtain ⟨oa, oS⟩ := aok_cons.mp oS
    obtain ⟨nn, hkd, hi0, hi1, hq⟩ := hq
    have h8 : 8 ≤ a := kd_8 (by rw [hkd]) (show 20 ≤ 28 by omega)
    have hcell := ck_arr (hRp.2.1 a h8 (oa a rfl)) hkd (by omega) (by omega)
    have harr := (hK.1.2 _ _ (tyL_at g 20 (by omega) (by omega))).1 nn (fun j => fv g u a (ety 20) j)
    refine W.iast hx hb hcell harr (fun h => by cases h) (row_in oi hi0 hi1) rfl rfl hd (fun H' he z o => ?_)
    have hrep : aRep g (sI u a i x) H' := aRep_sI hRp h8 (oa a rfl) ox z o (ck_arr' hkd (by omega) (by omega) (row_set oi hi0 he (fun j => fv_sI (Or.inl rfl))))
    exact hP _ _ _ _ _ _ hq H' ls _ cells slots hrep hl hoL oS (locs_in hlo h8) h1 h2 h0
  · exact hq.elim
theorem st_zast {own : String} {bytes : ByteArray} {ret : Option FieldType} {nm : String} {nL lv pc n : Nat} (hd : decode bytes pc = .ok (.bastore, 1)) (hn : pc + 1 = n) : SOK own bytes ret nm nL lv pc (x_zast n) := by
  intro g p l e R s m args below meth c call Q n0 hC hO P' hP L st u cc ss hq H ls locs cells slots hRp hl hoL hoS hlo h1 h2 h0
  obtain ⟨hx, hb, hr, hml, hown, hts, hlk, hnm, hK, hfr, hlw⟩ := hC
  subst hn
  unfold x_zast at hq
  split at hq
  · rename_i x i a st'
    obtain ⟨ox, oS⟩ := aok_cons.mp hoS
    obtain ⟨oi, oS⟩ := aok_cons.mp oS
    obtain ⟨oa, oS⟩ := aok_cons.mp oS
    obtain ⟨nn, hkd, hi0, hi1, hq⟩ := hq
    have h8 : 8 ≤ a := kd_8 (by rw [hkd]) (show 22 ≤ 28 by omega)
    have hcell := ck_arr (hRp.2.1 a h8 (oa a rfl)) hkd (by omega) (by omega)
    have harr := (hK.1.2 _ _ (tyL_at g 22 (by omega) (by omega))).1 nn (fun j => fv g u a (ety 22) j)
    obtain ⟨h01, hq⟩ := z_0o hq
    refine W.zast hx hb hcell harr (fun h => by cases h) (row_in oi hi0 hi1) rfl rfl hd (fun H' he z o => ?_)
    have hnar : narrow .boolean (.int (Int32.ofInt x)) = .int (Int32.ofInt x) := by rcases h01 with h | h <;> subst h <;> rfl
    rw [hnar] at he
    have hrep : aRep g (sI u a i x) H' := aRep_sI hRp h8 (oa a rfl) ox z o (ck_arr' hkd (by omega) (by omega) (row_set oi hi0 he (fun j => fv_sI (Or.inr rfl))))
    exact hP _ _ _ _ _ _ hq H' ls _ cells slots hrep hl hoL oS (locs_in hlo h8) h1 h2 h0
  · exact hq.elim
theorem st_fast {own : String} {bytes : ByteArray} {ret : Option FieldType} {nm : String} {nL lv pc n : Nat} (hd : decode bytes pc = .ok (.fastore, 1)) (hn : pc + 1 = n) : SOK own bytes ret nm nL lv pc (x_fast n) := by
  intro g p l e R s m args below meth c call Q n0 hC hO P' hP L st u cc ss hq H ls locs cells slots hRp hl hoL hoS hlo h1 h2 h0
  obtain ⟨hx, hb, hr, hml, hown, hts, hlk, hnm, hK, hfr, hlw⟩ := hC
  subst hn
  unfold x_fast at hq
  split at hq
  · rename_i x i a st'
    obtain ⟨ox, oS⟩ := aok_cons.mp hoS
    obtain ⟨oi, oS⟩ := aok_cons.mp oS
    obtain ⟨oa, oS⟩ := aok_cons.mp oS
    obtain ⟨nn, hkd, hi0, hi1, hq⟩ := hq
    have h8 : 8 ≤ a := kd_8 (by rw [hkd]) (show 21 ≤ 28 by omega)
    have hcell := ck_arr (hRp.2.1 a h8 (oa a rfl)) hkd (by omega) (by omega)
    have harr := (hK.1.2 _ _ (tyL_at g 21 (by omega) (by omega))).1 nn (fun j => fv g u a (ety 21) j)
    refine W.fast hx hb hcell harr (fun h => by cases h) (row_in oi hi0 hi1) rfl rfl hd (fun H' he z o => ?_)
    have hrep : aRep g (sF u a i x) H' := aRep_sF hRp h8 (oa a rfl) z o (ck_arr' hkd (by omega) (by omega) (row_set oi hi0 he (fun j => fv_sF)))
    exact hP _ _ _ _ _ _ hq H' ls _ cells slots hrep hl hoL oS (locs_in hlo h8) h1 h2 h0
  · exact hq.elim
theorem st_aast {own : String} {bytes : ByteArray} {ret : Option FieldType} {nm : String} {nL lv pc n : Nat} {k ke : Nat} {C : String} {T : u_T} {N : Nat} (hk1 : 23 ≤ k) (hk2 : k ≤ 26) (hke : ke < 9) (hc : vwC[ke]? = some (C, T, N)) (hty : ety k = .object C) (hd : decode bytes pc = .ok (.aastore, 1)) (hn : pc + 1 = n) : SOK own bytes ret nm nL lv pc (x_aast k ke n) := by
  intro g p l e R s m args below meth c call Q n0 hC hO P' hP L st u cc ss hq H ls locs cells slots hRp hl hoL hoS hlo h1 h2 h0
  obtain ⟨hx, hb, hr, hml, hown, hts, hlk, hnm, hK, hfr, hlw⟩ := hC
  subst hn
  unfold x_aast at hq
  split at hq
  · rename_i r i a st'
    obtain ⟨ox, oS⟩ := aok_cons.mp hoS
    obtain ⟨oi, oS⟩ := aok_cons.mp oS
    obtain ⟨oa, oS⟩ := aok_cons.mp oS
    obtain ⟨nn, hkd, hi0, hi1, hq⟩ := hq
    obtain ⟨hkr, hq⟩ := z_ro hq
    have h8 : 8 ≤ a := kd_8 (by rw [hkd]) (show k ≤ 28 by omega)
    have hcell := ck_arr (hRp.2.1 a h8 (oa a rfl)) hkd (by omega) (by omega)
    have harr := (hK.1.2 _ _ (tyL_at g k (by omega) (by omega))).1 nn (fun j => fv g u a (ety k) j)
    have hRA := (hK.1.2 _ _ (tyL_at g k (by omega) (by omega))).2
    have hr2 := ety_r k hk1 (by omega)
    cases r with
    | none =>
      rw [hty] at harr
      refine va_WaastN (C := C) hx hb hcell (by rw [← hty] at harr ⊢; exact harr) (fun h => by cases h) (row_in oi hi0 hi1) rfl rfl hd (fun H' he z o => ?_)
      have hrep : aRep g (sR u a i none) H' := aRep_sR hRp h8 (oa a rfl) ox z o (ck_arr' hkd (by omega) (by omega) (row_set oi hi0 he (fun j => fv_sR hr2)))
      exact hP _ _ _ _ _ _ hq H' ls _ cells slots hrep hl hoL oS (locs_in hlo h8) h1 h2 h0
    | some b =>
      have hkb := hkr b rfl
      have hb8 : 8 ≤ b := kd_8 hkb (by omega)
      obtain ⟨cv, v1, v2, v3, -⟩ := ck_obj (hRp.2.1 b hb8 (ox b rfl)) hkb hke
      obtain ⟨-, hcls⟩ := hK.1.1 ke _ hc
      have hcls : ClassAt s C (g.1 ke) := hcls
      obtain ⟨kC, hkC, -⟩ := hcls.2
      rw [hty] at hRA
      obtain ⟨kA, comp, a1, a2, a3, -⟩ := hRA
      have ecomp : comp = g.1 ke := Option.some.inj (a3.symm.trans hcls.1)
      subst ecomp
      refine W.aast hx hb hcell (fun q h => by cases h) (fun h => by cases h) a1 a2 rfl hkC ⟨by rw [i_0, i_lt oi i_rg0]; omega, by rw [arrV_size, i_nat oi]; omega⟩ v1 (fun q h => by rw [v3] at h; cases h) (by rw [v2]; exact hkC) (by rw [v2]; exact va_assign hcls) rfl rfl hd (fun H' he z o => ?_)
      have hrep : aRep g (sR u a i (some b)) H' := aRep_sR hRp h8 (oa a rfl) ox z o (ck_arr' hkd (by omega) (by omega) (row_set oi hi0 he (fun j => fv_sR hr2)))
      exact hP _ _ _ _ _ _ hq H' ls _ cells slots hrep hl hoL oS (locs_in hlo h8) h1 h2 h0
  · exact hq.elim
theorem st_slen {own : String} {bytes : ByteArray} {ret : Option FieldType} {nm : String} {nL lv pc n : Nat} (hd : decode bytes pc = .ok (.arraylength, 1)) (hn : pc + 1 = n) : SOK own bytes ret nm nL lv pc (x_slen n) := by
  intro g p l e R s m args below meth c call Q n0 hC hO P' hP L st u cc ss hq H ls locs cells slots hRp hl hoL hoS hlo h1 h2 h0
  obtain ⟨hx, hb, hr, hml, hown, hts, hlk, hnm, hK, hfr, hlw⟩ := hC
  subst hn
  unfold x_slen at hq
  split at hq
  · rename_i st'
    obtain ⟨oa, oS⟩ := aok_cons.mp hoS
    obtain ⟨⟨scr, e1, e2, e3, e4, e5⟩, hbl⟩ := hK.2.2.1
    have hrho : rho g 0 = g.2.2.2.1 0 := rfl
    have hcell : H[rho g 0]? = some scr := by rw [hrho, hRp.2.2.1 _ hbl]; exact e1
    have hk := hP _ _ _ _ _ _ hq H ls locs cells slots hRp hl hoL (aok_cons.mpr ⟨hRp.2.2.2.1 0 (-1), oS⟩) hlo h1 h2 h0
    refine W.alen (n := Int32.ofInt (hI u 0 (-1))) hx hb hcell e2 ?_ rfl rfl hd hk
    rw [e4, hRp.2.2.2.2.2.2.1]
    rfl
  · exact hq.elim
theorem st_sald {own : String} {bytes : ByteArray} {ret : Option FieldType} {nm : String} {nL lv pc n : Nat} (hd : decode bytes pc = .ok (.iaload, 1)) (hn : pc + 1 = n) : SOK own bytes ret nm nL lv pc (x_sald n) := by
  intro g p l e R s m args below meth c call Q n0 hC hO P' hP L st u cc ss hq H ls locs cells slots hRp hl hoL hoS hlo h1 h2 h0
  obtain ⟨hx, hb, hr, hml, hown, hts, hlk, hnm, hK, hfr, hlw⟩ := hC
  subst hn
  unfold x_sald at hq
  split at hq
  · rename_i i st'
    obtain ⟨oi, oS⟩ := aok_cons.mp hoS
    obtain ⟨oa, oS⟩ := aok_cons.mp oS
    obtain ⟨⟨hi0, hi1⟩, hq⟩ := hq
    obtain ⟨⟨scr, e1, e2, e3, e4, e5⟩, hbl⟩ := hK.2.2.1
    have hrho : rho g 0 = g.2.2.2.1 0 := rfl
    have hcell : H[rho g 0]? = some scr := by rw [hrho, hRp.2.2.1 _ hbl]; exact e1
    rw [hRp.2.2.2.2.2.2.1] at hi1
    have hk := hP _ _ _ _ _ _ hq H ls locs cells slots hRp hl hoL (aok_cons.mpr ⟨hRp.2.2.2.1 0 i, oS⟩) hlo h1 h2 h0
    refine W.iald (v := .int (Int32.ofInt (hI u 0 i))) hx hb hcell e2 e3 (by rw [e4]; exact i_in oi hi0 hi1) ?_ rfl rfl hd hk
    rw [i_nat oi, e5 _ (by omega)]
    have e6 := hRp.2.2.2.2.2.2.2 i.toNat (by omega)
    rw [Int.toNat_of_nonneg hi0] at e6
    rw [e6, Int32.ofInt_toInt]
  · exact hq.elim
theorem z_swo {X : Nat → Prop} {x : Int} {d : Nat} : ∀ {l : List (Int × Nat)}, z_sw X x d l → X ((l.find? (fun q => q.1 == x)).elim d (·.2))
  | [], h => h
  | q :: l, h => by
    unfold z_sw at h
    by_cases e : x = q.1
    · rw [if_pos e] at h
      rw [List.find?_cons_of_pos (by simp [e])]
      exact h
    · rw [if_neg e] at h
      rw [List.find?_cons_of_neg (by simp; exact fun q2 => e q2.symm)]
      exact z_swo h
theorem st_tsw {own : String} {bytes : ByteArray} {ret : Option FieldType} {nm : String} {nL lv pc : Nat} {dflt lo hi : Int} {offs : Array Int} {len d : Nat} {cs : List (Int × Nat)} (hd : decode bytes pc = .ok (.tableswitch dflt lo hi offs, len)) (h3 : (pc : Int) + dflt = d) (h4 : cs.length = offs.size) (h5 : (offs.size : Int) = hi - lo + 1) (h6 : ∀ j, j < offs.size → ∃ o t, offs[j]? = some o ∧ cs[j]? = some (lo + j, t) ∧ (pc : Int) + o = t) : SOK own bytes ret nm nL lv pc (x_sw d cs) := by
  intro g p l e R s m args below meth c call Q n0 hC hO P' hP L st u cc ss hq H ls locs cells slots hRp hl hoL hoS hlo h1 h2 h0
  obtain ⟨hx, hb, hr, hml, hown, hts, hlk, hnm, hK, hfr, hlw⟩ := hC
  unfold x_sw at hq
  split at hq
  · rename_i x st'
    obtain ⟨ox, oS⟩ := aok_cons.mp hoS
    have hq := z_swo hq
    have hk := hP _ _ _ _ _ _ hq H ls locs cells slots hRp hl hoL oS hlo h1 h2 h0
    by_cases hin : lo ≤ x ∧ x ≤ hi
    · obtain ⟨o1, t, ho, hc, ht⟩ := h6 (x - lo).toNat (by omega)
      have hfind : (cs.find? (fun q => q.1 == x)).elim d (·.2) = t := by
        have hlt : (x - lo).toNat < cs.length := by omega
        have hfi : cs.find? (fun q => q.1 == x) = some (x, t) := by
          rw [List.find?_eq_some_iff_getElem]
          refine ⟨by simp, (x - lo).toNat, hlt, ?_, fun j hj => ?_⟩
          · have := (List.getElem?_eq_some_iff.mp hc).2
            rw [this]
            congr 1
            omega
          · obtain ⟨o2, t2, -, hc2, -⟩ := h6 j (by omega)
            have := (List.getElem?_eq_some_iff.mp hc2).2
            rw [this]
            simp
            omega
        rw [hfi]
        rfl
      rw [hfind] at hk
      exact lv_tableIn hx hb hd (by rw [i_toInt ox]; omega) (by rw [i_toInt ox]; omega) (by rw [i_toInt ox]; exact ho) ht hk
    · have hfind : (cs.find? (fun q => q.1 == x)).elim d (·.2) = d := by
        have hnone : cs.find? (fun q => q.1 == x) = none := by
          rw [List.find?_eq_none]
          intro q hq2
          obtain ⟨j, hj⟩ := List.getElem?_of_mem hq2
          have hjl := (List.getElem?_eq_some_iff.mp hj).1
          obtain ⟨o2, t2, -, hc2, -⟩ := h6 j (by omega)
          rw [hj] at hc2
          cases hc2
          simp
          omega
        rw [hnone]
        rfl
      rw [hfind] at hk
      exact lv_tableOut hx hb hd (by rw [i_toInt ox]; omega) h3 hk
  · exact hq.elim
theorem st_lsw {own : String} {bytes : ByteArray} {ret : Option FieldType} {nm : String} {nL lv pc : Nat} {dflt : Int} {ps : Array (Int × Int)} {len d : Nat} {cs : List (Int × Nat)} (hd : decode bytes pc = .ok (.lookupswitch dflt ps, len)) (hp : (ps.toList.zip (ps.toList.drop 1)).all (fun (a, next) => a.1 < next.1) = true) (h6 : ∀ x : Int, (pc : Int) + Op.lookupswitch.offset ps.toList dflt x = ((cs.find? (fun q => q.1 == x)).elim d (·.2) : Nat)) : SOK own bytes ret nm nL lv pc (x_sw d cs) := by
  intro g p l e R s m args below meth c call Q n0 hC hO P' hP L st u cc ss hq H ls locs cells slots hRp hl hoL hoS hlo h1 h2 h0
  obtain ⟨hx, hb, hr, hml, hown, hts, hlk, hnm, hK, hfr, hlw⟩ := hC
  unfold x_sw at hq
  split at hq
  · rename_i x st'
    obtain ⟨ox, oS⟩ := aok_cons.mp hoS
    have hq := z_swo hq
    have hk := hP _ _ _ _ _ _ hq H ls locs cells slots hRp hl hoL oS hlo h1 h2 h0
    exact lv_lookup hx hb hd hp rfl (by rw [i_toInt ox]; exact h6 x) hk
  · exact hq.elim
