/-! the constructor of the model; the law -/
theorem w_i8 {d : Nat} {Q : aQ} {c s : Nat} : ∀ (m : Nat) (i : Int) (u : aS), hR u 139 21 = some 153 → i + m = 3 → 0 ≤ i → Q none (fl u 153 i 3 (-1)) → wp (wpm d) cd_X8_init Q 135 [vR 139, vI i] [] u c s
  | 0, i, u, hS, h1, h0, h => by
    rw [fl_end u 153 (-1) (by omega)] at h
    have e : i = 3 := by omega
    subst e
    refine run [] 60 ?_
    exact h
  | m + 1, i, u, hS, h1, h0, h => by
    refine run [(135, [])] 60 ?_
    refine z_bq (fun hz => ?_) (fun hz => by omega)
    refine z_dq hS ?_
    refine z_iq (n := 3) rfl h0 (by omega) ?_
    refine z_gq (by omega) ?_
    rw [← fl_step u 153 (-1) (show i < 3 by omega)] at h
    exact w_i8 m (i + 1) _ hS (by omega) (by omega) h
theorem mA_i8 {u U : aS} (hz : zr u 139) (hS : mS U) (hI0 : ∀ a i, ¬ (a = 153 ∧ 0 ≤ i ∧ i < 3) → hI U a i = hI u a i) (h3 : ∀ i, 0 ≤ i → i < 3 → hI U 153 i = -1) : mA U A0 := by
  have e : ∀ a i, 139 ≤ a → ¬ a = 153 → hI U a i = 0 := fun a i ha hb => (hI0 a i (by omega)).trans (hz a ha i).1
  refine ⟨hS, ⟨e 139 2 (by omega) (by omega), fun s s0 s1 => e 141 s (by omega) (by omega), fun s i s0 s1 i0 i1 i2 => ?_⟩, ⟨e 139 13 (by omega) (by omega), fun i i0 i1 => ?_⟩, ⟨fun r r0 r1 => ⟨h3 r r0 (by omega), e 154 r (by omega) (by omega)⟩, fun j j0 j1 => e 155 j (by omega) (by omega)⟩, fun k k0 k1 => ⟨mTk_m (e 142 _ (by omega) (by omega)) (e 142 _ (by omega) (by omega)) (fun j p hp => ?_), e 143 k (by omega) (by omega), e 145 k (by omega) (by omega), fun j t ht => ?_⟩, fun k k0 k1 => ⟨e 148 k (by omega) (by omega), fun z => ?_⟩⟩
  · replace i2 : s < 0 := i2
    omega
  · replace i1 : i < 0 := i1
    omega
  · replace hp : ([] : List Sp)[j]? = some p := hp
    simp at hp
  · replace ht : ([] : List Tk)[j]? = some t := ht
    simp at ht
  · replace z : (0 : Int) = 1 := z
    omega
set_option maxHeartbeats 4000000 in
set_option maxRecDepth 100000 in
theorem i_X8 {d : Nat} {u : aS} {Q : aQ} (hn : nx u = 140) (hz : zr u 139) (h : ∀ u', fA (fun a => 139 ≤ a ∧ a ≤ 155) u u' → nx u' = 156 → mA u' A0 → Q none u') : wpm (d + 1) M_X8_init [vR 139] u Q := by
  obtain ⟨uI, uF, uR, un⟩ := u
  replace hn : un = 140 := hn
  subst hn
  refine e_X8_init rfl (run [(135, [])] 200 ?_)
  refine y_newa (call := wpm d) (Q := Q) (a := 140) (m := 384) rfl rfl rfl (by omega) (by omega) ?_
  refine y_newa (call := wpm d) (Q := Q) (a := 141) (m := 6) rfl rfl rfl (by omega) (by omega) ?_
  refine y_newa (call := wpm d) (Q := Q) (a := 142) (m := 344) rfl rfl rfl (by omega) (by omega) ?_
  refine y_newa (call := wpm d) (Q := Q) (a := 143) (m := 4) rfl rfl rfl (by omega) (by omega) ?_
  refine y_newa (call := wpm d) (Q := Q) (a := 144) (m := 1376) rfl rfl rfl (by omega) (by omega) ?_
  refine y_newa (call := wpm d) (Q := Q) (a := 145) (m := 4) rfl rfl rfl (by omega) (by omega) ?_
  refine y_newa (call := wpm d) (Q := Q) (a := 146) (m := 688) rfl rfl rfl (by omega) (by omega) ?_
  refine y_newa (call := wpm d) (Q := Q) (a := 147) (m := 8) rfl rfl rfl (by omega) (by omega) ?_
  refine y_newa (call := wpm d) (Q := Q) (a := 148) (m := 2) rfl rfl rfl (by omega) (by omega) ?_
  refine y_newa (call := wpm d) (Q := Q) (a := 149) (m := 128) rfl rfl rfl (by omega) (by omega) ?_
  refine y_newa (call := wpm d) (Q := Q) (a := 150) (m := 91) rfl rfl rfl (by omega) (by omega) ?_
  refine y_newa (call := wpm d) (Q := Q) (a := 151) (m := 200) rfl rfl rfl (by omega) (by omega) ?_
  refine y_newa (call := wpm d) (Q := Q) (a := 152) (m := 6) rfl rfl rfl (by omega) (by omega) ?_
  refine y_newa (call := wpm d) (Q := Q) (a := 153) (m := 3) rfl rfl rfl (by omega) (by omega) ?_
  refine y_newa (call := wpm d) (Q := Q) (a := 154) (m := 3) rfl rfl rfl (by omega) (by omega) ?_
  refine y_newa (call := wpm d) (Q := Q) (a := 155) (m := 24) rfl rfl rfl (by omega) (by omega) ?_
  refine w_i8 3 0 _ rfl (by omega) (by omega) ?_
  have fr : fA (fun a => 139 ≤ a ∧ a ≤ 155) (uI, uF, uR, 140) (sR (nw (sR (nw (sR (nw (sR (nw (sR (nw (sR (nw (sR (nw (sR (nw (sR (nw (sR (nw (sR (nw (sR (nw (sR (nw (sR (nw (sR (nw (sR (nw (uI, uF, uR, 140) 1) 139 0 (some 140)) 1) 139 1 (some 141)) 1) 139 3 (some 142)) 1) 139 4 (some 143)) 1) 139 5 (some 144)) 1) 139 6 (some 145)) 1) 139 7 (some 146)) 1) 139 8 (some 147)) 1) 139 9 (some 148)) 1) 139 10 (some 149)) 1) 139 11 (some 150)) 1) 139 12 (some 151)) 1) 139 19 (some 152)) 1) 139 21 (some 153)) 1) 139 22 (some 154)) 1) 139 23 (some 155)) := by
    repeat first
      | exact fA_rfl _ _
      | refine fA_tr ?_ (fA_sR _ _ _ (by omega))
      | refine fA_tr ?_ (fA_nw _ _)
  refine h _ (fA_tr fr (fA_fl _ _ _ _ (by omega))) rfl (mA_i8 hz ⟨⟨rfl, rfl, rfl, rfl, rfl, rfl, rfl, rfl⟩, rfl, rfl, rfl, rfl, rfl, rfl, rfl, rfl⟩ (fun a i ha => ?_) (fun i i0 i1 => ?_))
  · rw [hI_fl, if_neg ha]
    rfl
  · rw [hI_fl, if_pos ⟨rfl, i0, i1⟩]
theorem v_A0 : vA A0 := by
  refine ⟨⟨⟨⟨by show (0 : Int) ≤ 0; omega, by show (0 : Int) ≤ 6; omega⟩, fun s s0 s1 => ⟨⟨by show (0 : Int) ≤ 0; omega, by show (0 : Int) ≤ 64; omega⟩, fun z => ?_⟩⟩, fun s i s0 s1 => ?_⟩, ⟨⟨by show (0 : Int) ≤ 0; omega, by show (0 : Int) ≤ 200; omega⟩, fun i i0 i1 => ?_⟩, ⟨fun r r0 r1 => ⟨⟨by show (-1 : Int) ≤ -1; omega, by show (-1 : Int) ≤ 2; omega⟩, by show (0 : Int) ≤ 0; omega, by show (0 : Int) ≤ 8; omega⟩, fun j => ⟨by show (0 : Int) ≤ 0; omega, by show (0 : Int) ≤ 200; omega⟩⟩, ⟨fun k k0 k1 => ⟨by show 0 ≤ 4; omega, fun t ht => ?_, Or.inl rfl⟩, fun k k0 k1 t ht p hp => ?_⟩, fun k k0 k1 => ⟨Or.inl rfl, fun z => ?_⟩, fun k k0 k1 z => ?_⟩
  · replace z : s < 0 := z
    omega
  · replace s1 : s < 0 := s1
    omega
  · replace i1 : i < 0 := i1
    omega
  · replace ht : t ∈ ([(([], 0) : Tk)] : List Tk) := ht
    have e : t = ([], 0) := by simpa using ht
    rw [e]
    exact ⟨⟨trivial, by show 0 ≤ 12; omega, fun p hp => by simp at hp⟩, by show (-16 : Int) ≤ 0; omega, by show (0 : Int) ≤ 16; omega⟩
  · replace ht : t ∈ ([(([], 0) : Tk)] : List Tk) := ht
    have e : t = ([], 0) := by simpa using ht
    rw [e] at hp
    simp at hp
  · replace z : (0 : Int) = 1 := z
    omega
  · replace z : (0 : Int) = 1 := z
    omega
set_option maxRecDepth 100000 in
theorem h_law (L : Nat) (xs : Nat → Int32) (hL : L ≤ 3072) : wp (wpm 9) cd_L_law (fun r _ => r = some (vI 1)) 0 (inil 4 [vR 0]) [] (u_0 L xs) 600000 7302250 := by
  have hz : zr (u_0 L xs) 1 := fun a ha i => ⟨if_neg (by omega), rfl, rfl⟩
  have e0 : hI (u_0 L xs) 0 (-1) = L := rfl
  have hr : ∀ j, hI (u_0 L xs) 0 j ≤ 2147483647 := by
    intro j
    show (if j = -1 then (L : Int) else if 0 ≤ j ∧ j < L then (xs j.toNat).toInt else 0) ≤ 2147483647
    split
    · omega
    · split
      · have := Int32.toInt_lt (xs j.toNat)
        omega
      · omega
  refine run [(18, [])] 60 ?_
  refine y_new (call := wpm 9) (Q := fun r _ => r = some (vI 1)) (a := 8) rfl rfl (by omega) (by omega) ?_
  refine z_big (k := 130) (by omega) ?_
  refine z_big (k := 1459) (by omega) ?_
  refine i_X7 (d := 6) rfl (fun a ha i => hz a (by omega) i) (fun u1 f1 n1 c1 => ?_)
  refine y_new (call := wpm 9) (Q := fun r _ => r = some (vI 1)) (a := 139) n1 rfl (by omega) (by omega) ?_
  refine z_big (k := 16) (by omega) ?_
  refine z_big (k := 3271) (by omega) ?_
  have z1 : zr (nw u1 1) 139 := zr_f (p := fun a => 8 ≤ a ∧ a < 139) hz (fA_tr (fA_nw _ 1) (fA_tr f1 (fA_nw _ 1))) (by omega) (fun a ha => by omega)
  refine i_X8 (d := 8) (by rw [nx_nw, n1]) z1 (fun u2 f2 n2 m2 => ?_)
  have c2 : cA u2 A0 := by
    obtain ⟨h1, h3, h4, h5, h6, h7⟩ := c1
    have f : fA (fun a => 139 ≤ a ∧ a ≤ 155) u1 u2 := fA_tr (fA_nw _ 1) f2
    exact ⟨cS_f f (fun a => by omega) h1, by omega, cSo_f f (fun a => by omega) h3, cTx_f f (fun a => by omega) h4, cRk_f f (fun a => by omega) h5, cTr_f f (fun a => by omega) (fun b => by omega) h6, cKp_f f (by omega) (fun j k j0 k0 => ⟨by omega, by omega, by omega⟩) (fun b => by omega) h7⟩
  refine w_law (u0 := u_0 L xs) (by omega) (by omega) hr (fun u => rfl) 512 0 u2 A0 _ _ ⟨c2, m2, v_A0, fun i => ?_⟩ (by omega) (by omega) (by omega) (by omega) (by omega)
  exact ((f2.1 0 (by omega) i).1).trans (f1.1 0 (by omega) i).1
