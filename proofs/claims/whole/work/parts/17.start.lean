/-! from the smaller machine to the law: whole_start -/
def u_0 (L : Nat) (xs : Nat → Int32) : aS := (fun a i => if a = 0 then (if i = -1 then (L : Int) else if 0 ≤ i ∧ i < L then (xs i.toNat).toInt else 0) else 0, fun _ _ => 0, fun _ _ => none, 8)
theorem u_0_rep (g : aG) (hL : g.2.2.2.2.2.2 ≤ 3072) : aRep g (u_0 g.2.2.2.2.2.2 g.2.2.2.2.2.1) (gH g) := by
  refine ⟨⟨Nat.le_refl _, rfl⟩, fun a h1 h2 => ?_, fun q _ => rfl, fun a i => ?_, fun a i r h => (by cases h), fun a ha i => ⟨?_, rfl, rfl⟩, ?_, fun j hj => ?_⟩
  · have h2 : a < 8 := h2
    omega
  · show i_rg (if a = 0 then (if i = -1 then ((g.2.2.2.2.2.2 : Nat) : Int) else if 0 ≤ i ∧ i < (g.2.2.2.2.2.2 : Nat) then (g.2.2.2.2.2.1 i.toNat).toInt else 0) else 0)
    split
    · split
      · exact ⟨by omega, by omega⟩
      · split
        · exact i_of32 _
        · exact i_rg0
    · exact i_rg0
  · have ha : 8 ≤ a := ha
    show (if a = 0 then _ else (0 : Int)) = 0
    rw [if_neg (by omega)]
  · simp [hI, u_0]
  · show (fun (a : Nat) (i : Int) => if a = 0 then (if i = -1 then ((g.2.2.2.2.2.2 : Nat) : Int) else if 0 ≤ i ∧ i < (g.2.2.2.2.2.2 : Nat) then (g.2.2.2.2.2.1 i.toNat).toInt else 0) else 0) 0 (j : Int) = _
    simp only []
    rw [if_pos trivial, if_neg (by omega), if_pos ⟨by omega, by omega⟩]
    rfl
theorem sbn_forget {s t : State} {L : List Loc} {k n : Nat} (h : s.sameButNew t L k n) (hL : ∀ q ∈ L, s.heap.size ≤ q.base) : s.sameButNew t [] k n := by
  obtain ⟨h1, h2, h3, h4, h5, h6⟩ := h
  refine ⟨h1, h2, h3, h4, h5, fun a c hc => ?_⟩
  obtain ⟨c', e1, e2, e3, e4⟩ := h6 a c hc
  refine ⟨c', e1, e2, e3, fun i _ => e4 i (fun hm => ?_)⟩
  have h9 : s.heap.size ≤ a := hL _ hm
  have hlt : a < s.heap.size := (Array.getElem?_eq_some_iff.mp hc).1
  exact absurd hlt (Nat.not_lt.mpr h9)
theorem ao_obj {s : State} {C : String} {A : Array Value} (h : (Cond.arrayOver (.object C)).before A s = true) : ∃ cA, ArrOfT s cA (.object C) ∧ va_RA s cA (.object C) := by
  obtain ⟨comp, c, k, h1, h2, h3, h4, h5⟩ := Cond.arrayOver_spec h
  exact ⟨c, fun N z => ⟨(fun q hq => by cases hq), k, h3, comp, h4⟩, k, comp, h3, h4, h1, h5⟩
theorem ao_arr {s : State} {ty : FieldType} {A : Array Value} (h : (Cond.arrayOver (.array ty)).before A s = true) : ∃ cA, ArrOfT s cA (.array ty) ∧ va_RA s cA (.array ty) := by
  obtain ⟨comp, c, k, h1, h2, h3, h4, h5⟩ := Jvm.Stand.arrayOver_specB h
  exact ⟨c, fun N z => ⟨(fun q hq => by cases hq), k, h3, comp, h4⟩, h5⟩
theorem ac_prim {s : State} {ty : FieldType} {A : Array Value} (h : (Cond.arrayClass ty).before A s = true) (hp : ∀ C, ty ≠ .object C) : ∃ cA, ArrOfT s cA ty ∧ va_RA s cA ty := by
  obtain ⟨c, k, comp, h1, h2, h3⟩ := Cond.arrayClass_spec h
  refine ⟨c, fun N z => ⟨(fun q hq => by cases hq), k, h2, comp, h3⟩, ?_⟩
  cases ty with
  | object C => exact absurd rfl (hp C)
  | _ => exact h1
theorem isRef_val {args : Array Value} {s : State} {t : Term} (h : (Cond.isRef t).before args s = true) : ∃ v, t.eval args s none [] s = some v ∧ (v = .null ∨ ∃ a, v = .ref a) := by
  simp only [Cond.before, Cond.holds, Cond.value] at h
  cases hv : t.eval args s none [] s with
  | none => simp [hv] at h
  | some v =>
    refine ⟨v, rfl, ?_⟩
    cases v <;> simp [hv] at h
    · exact Or.inl rfl
    · exact Or.inr ⟨_, rfl⟩
theorem lw_all_gd {w : Cond} (h : w ∈ lw_g) : w ∈ lw_tbl := (List.mem_filter.mp h).1
set_option maxRecDepth 100000 in
set_option maxHeartbeats 4000000 in
/-- the strings, at the law's entry -/
theorem str_0 {s : State} {b : Nat} (hts : ∀ w ∈ lw_tbl, w.before #[Value.ref b] s = true) (hgv : (Jvm.Cond.and given_1 narrow_1).before #[Value.ref b] s = true) : ∃ adK adV : Nat → Nat, vk_S 7 lenJ bytJ adK adV (fun q => s.heap.size ≤ q) s s.heap ∧ ∀ i : Nat, i < 7 → vk_R RX1 (skI (i + 1)) (skT (i + 1)) (adK i) s := by
  have hs := flat_of_before _ hgv
  obtain ⟨adK, adV, h1, h2⟩ := vk_Sof (args := #[Value.ref b]) (s := s) (N := 7) (tm := fun i => Term.string "TapeHouse$Reader" (skI (i + 1))) (len := lenJ) (byt := bytJ) (A := fun q => s.heap.size ≤ q) (by decide +kernel)
    (fun i hi => by rcases (show i = 0 ∨ i = 1 ∨ i = 2 ∨ i = 3 ∨ i = 4 ∨ i = 5 ∨ i = 6 by omega) with h | h | h | h | h | h | h <;> subst h <;> exact hs _ (by decide +kernel)) (fun i hi => by rcases (show i = 0 ∨ i = 1 ∨ i = 2 ∨ i = 3 ∨ i = 4 ∨ i = 5 ∨ i = 6 by omega) with h | h | h | h | h | h | h <;> subst h <;> exact hs _ (by decide +kernel)) (fun i hi => by rcases (show i = 0 ∨ i = 1 ∨ i = 2 ∨ i = 3 ∨ i = 4 ∨ i = 5 ∨ i = 6 by omega) with h | h | h | h | h | h | h <;> subst h <;> exact hs _ (by decide +kernel)) (fun i hi => by rcases (show i = 0 ∨ i = 1 ∨ i = 2 ∨ i = 3 ∨ i = 4 ∨ i = 5 ∨ i = 6 by omega) with h | h | h | h | h | h | h <;> subst h <;> exact hs _ (by decide +kernel))
    (fun i hi j hj => by
      have key : ∀ i, i < 7 → ∀ j, j < lenJ.getD i 0 → (Cond.eq (.elem (.field (Term.string "TapeHouse$Reader" (skI (i + 1))) "java/lang/String" "value" "[B") (.int (Int32.ofNat j))) (.int ((bytJ.getD i []).getD j 0))) ∈ flatC (Jvm.Cond.and given_1 narrow_1) := by decide +kernel
      exact hs _ (key i hi j hj))
    (fun i j hi hj hne => by
      have key : ∀ i, i < 7 → ∀ j, j < 7 → i ≠ j → ((Cond.not (Cond.eq (Term.string "TapeHouse$Reader" (skI (i + 1))) (Term.string "TapeHouse$Reader" (skI (j + 1))))) ∈ flatC (Jvm.Cond.and given_1 narrow_1) ∨ (Cond.not (Cond.eq (Term.string "TapeHouse$Reader" (skI (j + 1))) (Term.string "TapeHouse$Reader" (skI (i + 1))))) ∈ flatC (Jvm.Cond.and given_1 narrow_1)) := by decide +kernel
      rcases key i hi j hj hne with h | h
      · exact Or.inl (hs _ h)
      · exact Or.inr (hs _ h))
    (fun a ha hn => by omega)
  refine ⟨adK, adV, h1, fun i hi => vk_R.of (A := #[Value.ref b]) ?_ (h2 i hi)⟩
  rcases (show i = 0 ∨ i = 1 ∨ i = 2 ∨ i = 3 ∨ i = 4 ∨ i = 5 ∨ i = 6 by omega) with h | h | h | h | h | h | h <;> subst h
  · exact hts _ (List.mem_of_getElem? (i := 345) (by decide +kernel))
  · exact hts _ (List.mem_of_getElem? (i := 403) (by decide +kernel))
  · exact hts _ (List.mem_of_getElem? (i := 404) (by decide +kernel))
  · exact hts _ (List.mem_of_getElem? (i := 405) (by decide +kernel))
  · exact hts _ (List.mem_of_getElem? (i := 406) (by decide +kernel))
  · exact hts _ (List.mem_of_getElem? (i := 407) (by decide +kernel))
  · exact hts _ (List.mem_of_getElem? (i := 408) (by decide +kernel))
set_option maxRecDepth 100000 in
set_option maxHeartbeats 4000000 in
theorem kn_0 {s : State} {b L : Nat} {xs : Nat → Int32} (hts : ∀ w ∈ lw_tbl, w.before #[Value.ref b] s = true) (hX : va_X b L xs s s.heap) (hbl : b < s.heap.size) (hgv : (Jvm.Cond.and given_1 narrow_1).before #[Value.ref b] s = true) : ∃ g : aG, knS g s ∧ gH g = s.heap ∧ g.2.2.2.1 0 = b ∧ g.2.2.2.2.2.1 = xs ∧ g.2.2.2.2.2.2 = L := by
  obtain ⟨c0, i0, k0⟩ := u_known (C := RX0) (T := TX0) (N := 5) hts (fun w hw => lw_all_gd (hin_all 0 (by decide) _ rfl w hw)) (hts _ (lw_all_gd v_259))
  obtain ⟨c1, i1, k1⟩ := u_known (C := RX1) (T := TX1) (N := 8) hts (fun w hw => lw_all_gd (hin_all 1 (by decide) _ rfl w hw)) (hts _ (lw_all_gd v_170))
  obtain ⟨c2, i2, k2⟩ := u_known (C := RX2) (T := TX2) (N := 3) hts (fun w hw => lw_all_gd (hin_all 2 (by decide) _ rfl w hw)) (hts _ (lw_all_gd v_126))
  obtain ⟨c3, i3, k3⟩ := u_known (C := RX3) (T := TX3) (N := 7) hts (fun w hw => lw_all_gd (hin_all 3 (by decide) _ rfl w hw)) (hts _ (lw_all_gd v_477))
  obtain ⟨c4, i4, k4⟩ := u_known (C := RX4) (T := TX4) (N := 3) hts (fun w hw => lw_all_gd (hin_all 4 (by decide) _ rfl w hw)) (hts _ (lw_all_gd v_210))
  obtain ⟨c5, i5, k5⟩ := u_known (C := RX5) (T := TX5) (N := 2) hts (fun w hw => lw_all_gd (hin_all 5 (by decide) _ rfl w hw)) (hts _ (lw_all_gd v_154))
  obtain ⟨c6, i6, k6⟩ := u_known (C := RX6) (T := TX6) (N := 7) hts (fun w hw => lw_all_gd (hin_all 6 (by decide) _ rfl w hw)) (hts _ (lw_all_gd v_204))
  obtain ⟨c7, i7, k7⟩ := u_known (C := RX7) (T := TX7) (N := 6) hts (fun w hw => lw_all_gd (hin_all 7 (by decide) _ rfl w hw)) (hts _ (lw_all_gd v_118))
  obtain ⟨c8, i8, k8⟩ := u_known (C := RX8) (T := TX8) (N := 24) hts (fun w hw => lw_all_gd (hin_all 8 (by decide) _ rfl w hw)) (hts _ (lw_all_gd v_848))
  obtain ⟨a0, A0, R0⟩ := ac_prim (ty := .int) (hts _ (lw_all_gd v_148)) (fun C h => by cases h)
  obtain ⟨a1, A1, R1⟩ := ac_prim (ty := .float) (hts _ (lw_all_gd v_147)) (fun C h => by cases h)
  obtain ⟨a2, A2, R2⟩ := ac_prim (ty := .boolean) (hts _ (lw_all_gd v_168)) (fun C h => by cases h)
  have O3 := hts _ w_150
  obtain ⟨a3, A3, R3⟩ := ao_obj O3
  have O4 := hts _ w_152
  obtain ⟨a4, A4, R4⟩ := ao_obj O4
  have O5 := hts _ w_233
  obtain ⟨a5, A5, R5⟩ := ao_obj O5
  have O6 := hts _ w_216
  obtain ⟨a6, A6, R6⟩ := ao_obj O6
  have O7 := hts _ w_176
  obtain ⟨a7, A7, R7⟩ := ao_arr O7
  have O8 := hts _ w_132
  obtain ⟨a8, A8, R8⟩ := ao_arr O8
  obtain ⟨adK, adV, hvS, hvR⟩ := str_0 hts hgv
  have hs := flat_of_before _ hgv
  have hA : ∀ a : Nat, a < s.heap.size → ¬ (fun q => s.heap.size ≤ q) a := fun a ha hn => by
    have hn : s.heap.size ≤ a := hn
    omega
  have hZ1 : va_Z "java/lang/String" "COMPACT_STRINGS" "Z" (.int 1) (fun q => s.heap.size ≤ q) s s.heap := va_Zof (hts _ w_359) (hts _ (lw_all_gd v_109)) (va_eqt (hs (Cond.eq (.static "java/lang/String" "COMPACT_STRINGS" "Z") (.int 1)) (by decide +kernel))) hA
  obtain ⟨v, hv1, hv2⟩ := isRef_val (hs (Cond.isRef (.static "jdk/internal/util/Preconditions" "SIOOBE_FORMATTER" "Ljava/util/function/BiFunction;")) (by decide +kernel))
  have hZ2 : va_Z "jdk/internal/util/Preconditions" "SIOOBE_FORMATTER" "Ljava/util/function/BiFunction;" v (fun q => s.heap.size ≤ q) s s.heap := va_Zof (hts _ w_380) (hts _ (lw_all_gd v_111)) hv1 hA
  let g : aG := (fun k => [c0, c1, c2, c3, c4, c5, c6, c7, c8].getD k c0, fun k => [i0, i1, i2, i3, i4, i5, i6, i7, i8].getD k i0, fun k => [a0, a1, a2, a3, a4, a5, a6, a7, a8].getD (k - 20) a0, fun j => if j = 0 then b else if j ≤ 7 then adK (j - 1) else adV (j - 11), s.heap, xs, L)
  refine ⟨g, ⟨⟨?_, ?_⟩, ?_, ⟨hX, hbl⟩, ⟨⟨va_AO.of O3, va_AO.of O4, va_AO.of O5, va_AO.of O6⟩, O7, O8⟩, ⟨?_, ?_, hZ1, v, hZ2, hv2⟩⟩, rfl, rfl, rfl, rfl⟩
  · intro k q hq
    match k, hq with
    | 0, hq => cases hq; exact k0
    | 1, hq => cases hq; exact k1
    | 2, hq => cases hq; exact k2
    | 3, hq => cases hq; exact k3
    | 4, hq => cases hq; exact k4
    | 5, hq => cases hq; exact k5
    | 6, hq => cases hq; exact k6
    | 7, hq => cases hq; exact k7
    | 8, hq => cases hq; exact k8
    | n + 9, hq => cases hq
  · intro k q hq
    match k, hq with
    | 0, hq => cases hq; exact ⟨A0, R0⟩
    | 1, hq => cases hq; exact ⟨A1, R1⟩
    | 2, hq => cases hq; exact ⟨A2, R2⟩
    | 3, hq => cases hq; exact ⟨A3, R3⟩
    | 4, hq => cases hq; exact ⟨A4, R4⟩
    | 5, hq => cases hq; exact ⟨A5, R5⟩
    | 6, hq => cases hq; exact ⟨A6, R6⟩
    | 7, hq => cases hq; exact ⟨A7, R7⟩
    | 8, hq => cases hq; exact ⟨A8, R8⟩
    | n + 9, hq => cases hq
  · intro w hw hn
    cases w with
    | fieldLinkNest a i b n d hh => exact va_Nw.of rfl (hts _ hw)
    | methodLinkNest a i x hh => exact va_Nw.of rfl (hts _ hw)
    | _ => cases hn
  · intro j h1 h2
    have h9 := hvR (j - 1) (by omega)
    rw [show j - 1 + 1 = j by omega] at h9
    show vk_R RX1 (skI j) (skT j) (if j = 0 then b else if j ≤ 7 then adK (j - 1) else adV (j - 11)) s
    rw [if_neg (by omega), if_pos h2]
    exact h9
  · obtain ⟨q1, q2⟩ := hvS
    have e1 : ∀ i, i < 7 → (if i + 1 = 0 then b else if i + 1 ≤ 7 then adK (i + 1 - 1) else adV (i + 1 - 11)) = adK i := fun i hi => by
      rw [if_neg (by omega), if_pos (by omega)]
      rfl
    have e2 : ∀ i, i < 7 → (if i + 11 = 0 then b else if i + 11 ≤ 7 then adK (i + 11 - 1) else adV (i + 11 - 11)) = adV i := fun i hi => by
      rw [if_neg (by omega), if_neg (by omega), show i + 11 - 11 = i by omega]
    refine ⟨fun i hi => ?_, fun i j hi hj h => ?_⟩
    · have h9 := q1 i hi
      rw [← e1 i hi, ← e2 i hi] at h9
      exact h9
    · have h : (if i + 1 = 0 then b else if i + 1 ≤ 7 then adK (i + 1 - 1) else adV (i + 1 - 11)) = (if j + 1 = 0 then b else if j + 1 ≤ 7 then adK (j + 1 - 1) else adV (j + 1 - 11)) := h
      rw [e1 i hi, e1 j hj] at h
      exact q2 i j hi hj h
set_option maxRecDepth 100000 in
set_option maxHeartbeats 4000000 in
/-- the law's walk, out of a walk in the smaller machine -/
theorem a_start (hlaw : ∀ (L : Nat) (xs : Nat → Int32), L ≤ 3072 → wp (wpm 9) cd_L_law (fun r _ => r = some (vI 1)) 0 (inil 4 [vR 0]) [] (u_0 L xs) 600000 7302250) {p : Program} {e : Env} {s : State} {m : MethodId} {below : List Frame} {meth : Method} {c : Code} (l : Launch) {b L : Nat} {xs : Nat → Int32} (hL : L ≤ 3072)
    (hx : p.tables.exec = Jvm.exec) (hb : c.code = code) (hr : meth.sig.returnType = ret) (hml : c.maxLocals = 4) (hown : s.vm.findClass RL = some m.cls) (hts : ∀ w ∈ lw_tbl, w.before #[Value.ref b] s = true) (hX : va_X b L xs s s.heap) (hbl : b < s.heap.size) (hlk : meth.locks = false) (hgv : (Jvm.Cond.and given_1 narrow_1).before #[Value.ref b] s = true) :
    W p l e room_1 s m #[Value.ref b] below meth c s.heap [] 0 0 (fun t => ∃ o, t.status = .running ∧ Ended t below o ∧ o = .returned (some (.int 1)) ∧ s.WarmedH t.vm ∧ s.sameButNew { t with vm := s.vm } [] 600000 7302250) (entryFrame m ([Value.ref b] : List Value).toArray 4) := by
  obtain ⟨g, hK, e1, e2, e3, e4⟩ := kn_0 hts hX hbl hgv
  have hC : aCx g RL cL_law (some .boolean) meth.name 4 1 p room_1 s m #[Value.ref b] meth c := ⟨hx, hb, hr, hml, hown, fun w hw => hts w (lw_all_gd hw), hlk, rfl, hK, Nat.le_of_ble_eq_true rfl, Nat.le_of_ble_eq_true rfl⟩
  have hO : aCO g l room_1 (wpm 9) := fun M' as' u' Q' h' => by
    have hm := (mg_all M').2.1
    exact ⟨_, a_sound mg_all g l 9 M' as' u' Q' h', rfl, rfl, Nat.le_of_ble_eq_true rfl, by show 8 + (mmx M' + 11) + 360 ≤ 428; omega⟩
  have hw := hlaw L xs hL _ (a_closed (e := e) (below := below) (n0 := 8) (Q := fun r _ => r = some (vI 1)) hC hO sk_L_law)
  rw [lg_entry_eq]
  have hrho : rho g 0 = b := e2
  have hen := lv_entry ([Value.ref b]) (n := 4) (Nat.le_of_ble_eq_true rfl)
  have hrep : aRep g (u_0 L xs) s.heap := by
    have h9 := u_0_rep g (by rw [e4]; exact hL)
    rw [e1, e3, e4] at h9
    exact h9
  have hW := hw s.heap _ [] 0 0 hrep ⟨inil_len _ _, hen.1, hen.2.1, fun i hi => by
      have h9 := hen.2.2 (0 + i, av g (lg (inil 4 [vR 0]) i)) (by
        have h8 := inil_args g 4 [vR 0] 0 i hi
        have e9 : [vR 0].map (av g) = [Value.ref b] := by rw [← hrho]; rfl
        rw [e9] at h8
        exact h8)
      rw [Nat.zero_add] at h9
      exact h9⟩ (inil_ok _ _ (aok_cons.mpr ⟨fun a ha => by cases ha; exact Nat.lt_of_lt_of_le (by decide) (Nat.le_refl 8), aok_nil⟩)) aok_nil (fun _ h => by cases h) rfl rfl (Nat.le_refl _)
  intro T hT X
  obtain ⟨t, st, o, h1, h2, ⟨r, u, hv, hq, hrp, hok, hn⟩, Lc, hF, hLc⟩ := hW T hT X
  refine ⟨t, st, o, h1, h2, ?_, hF.2.1, sbn_forget hF.2.2 (fun q hq2 => ?_)⟩
  · rw [hv, hq]
    rfl
  · have h9 := hLc q hq2
    have h9 : (gH g).size ≤ q.base := h9
    rw [e1] at h9
    exact h9
