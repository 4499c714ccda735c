/-! calls -/
theorem z_popo {na : Nat} {q : List aV × List aV} {X : Prop} (h : z_pop na q X) : wds q.2 ≤ 8 ∧ q.1.length = na ∧ X := by
  unfold z_pop at h
  cases hb : Nat.ble (wds q.2) 8 && Nat.beq q.1.length na with
  | true =>
    rw [hb] at h
    rw [Bool.and_eq_true] at hb
    exact ⟨Nat.le_of_ble_eq_true hb.1, Nat.eq_of_beq_eq_true hb.2, h⟩
  | false => rw [hb] at h; exact h.elim
theorem cat_wds (g : aG) : ∀ (l : List aV), ((l.map (av g)).map fun v => v.category).sum = wds l
  | [] => rfl
  | v :: l => by
    have ih := cat_wds g l
    simp only [List.map_cons, List.sum_cons]
    rw [ih]
    rcases v with x | r | f | x | d | z
    · show 1 + wds l = wds l + 1
      omega
    · cases r
      · show 1 + wds l = wds l + 1
        omega
      · show 1 + wds l = wds l + 1
        omega
    · show 1 + wds l = wds l + 1
      omega
    · show 2 + wds l = wds l + 2
      omega
    · show 2 + wds l = wds l + 2
      omega
    · show 1 + wds l = wds l + 1
      omega
theorem popn_eq : ∀ (k : Nat) (st acc : List aV), (popn k st acc).1.length = k + acc.length → (popn k st acc).1.reverse ++ (popn k st acc).2 = acc.reverse ++ st
  | 0, st, acc, _ => rfl
  | k + 1, [], acc, h => by
    have h : acc.length = k + 1 + acc.length := h
    omega
  | k + 1, v :: st, acc, h => by
    have ih := popn_eq k st (v :: acc) (by
      have h : (popn k st (v :: acc)).1.length = k + 1 + acc.length := h
      rw [h, List.length_cons]
      omega)
    show (popn k st (v :: acc)).1.reverse ++ (popn k st (v :: acc)).2 = _
    rw [ih]
    simp
theorem knS.same {g : aG} {u U : State} (h : knS g u) (hv : u.vm = U.vm) : knS g U := by
  have hal : u.vm.Alike U.vm := by rw [hv]; exact Vm.Alike.refl _
  refine ⟨va_K.moved hal h.1, fun w hw hn => ?_, ⟨h.2.2.1.1.moved hal, h.2.2.1.2⟩, h.2.2.2.1.moved hal, h.2.2.2.2.same hv⟩
  have h0 := h.2.1 w hw hn
  cases w with
  | fieldLinkNest a i b n d hh => exact va_Nw.same rfl hv h0
  | methodLinkNest a i x hh => exact va_Nw.same rfl hv h0
  | _ => cases hn
theorem aPc_blind (g : aG) (as : List aV) (u : aS) : FrameBlind (aPc g as u) := fun a U gf mk h => ⟨h.1, h.2.1, h.2.2.1, h.2.2.2.same rfl⟩
theorem lw_g_warm {args : Array Value} {s : State} (hts : ∀ w ∈ lw_g, w.before args s = true) (M : Nat) (hc : Cond.code (mY M) (mB M) (mmx M) (mRt M) ∈ lw_g) : ∀ w ∈ mW M, ∀ (a' : Array Value) (U : State), s.WarmedH U.vm → w.before a' U = true := by
  have key : ∀ w ∈ lw_g, ∀ (a' : Array Value) (U : State), s.WarmedH U.vm → w.before a' U = true := fun w hw a' U hW => word_at hW (good_of_word (List.mem_filter.mp hw).2) (hts w hw)
  intro w hw
  rcases List.mem_cons.mp hw with e | hw
  · rw [e]; exact key _ hc
  · exact key w hw
section AGO
variable {p : Program} {l : Launch} {e : Env} {R : Room} {s : State} {m : MethodId} {args : Array Value} {below : List Frame} {meth : Method} {c : Code} {H : Heap} {locs : List Loc} {cells slots mc ms : Nat} {Q : State → Prop}
theorem a_goes {g : aG} {Q' : aQ} {n0 pc : Nat} {ls : Array Slot} {st0 rest : List Value} {a : Array Value} (hr : va_Run p l e R s m args below meth c H locs cells slots mc ms (F0 m pc ls st0) rest (aQc g n0 Q' a) (aFr g)) (hlo : ∀ q ∈ locs, (gH g).size ≤ q.base)
    (kk : ∀ (r : Option aV) (u : aS) (H1 : Heap) (locs1 : List Loc), Q' r u → aRep g u H1 → (∀ v, r = some v → vok (nx u) v) → n0 ≤ nx u → (∀ q ∈ locs1, (gH g).size ≤ q.base) → W p l e R s m args below meth c H1 locs1 (cells + mc) (slots + ms) Q (F0 m (pc + 3) ls ((r.map (av g)).toList ++ rest))) : W p l e R s m args below meth c H locs cells slots Q (F0 m pc ls st0) := by
  intro T hT X
  obtain ⟨v, st₀, t, T', L, h0, X', hL, e1, e2, ⟨r, u, hv, hq, hrep, hok, hn⟩, st⟩ := hr T hT X
  cases hv
  obtain ⟨t2, a1, b1⟩ := kk r u T'.heap (locs ++ L) hq (by rw [e1]; exact hrep) hok hn (fun q hq => by
    rcases List.mem_append.mp hq with h | h
    · exact hlo q h
    · exact hL q h) T' rfl X'
  exact ⟨t2, st t2 a1, b1⟩
end AGO
theorem rcons_map (g : aG) (r : Option aV) (st : List aV) : (r.map (av g)).toList ++ st.map (av g) = (rcons r st).map (av g) := by
  cases r <;> rfl
theorem rcons_ok {n : Nat} {r : Option aV} {st : List aV} (h : ∀ v, r = some v → vok n v) (hs : aok n st) : aok n (rcons r st) := by
  cases r with
  | none => exact hs
  | some v => exact aok_cons.mpr ⟨h v rfl, hs⟩
theorem pop_ok {n k : Nat} {st : List aV} (h : aok n st) (hl : (popn k st []).1.length = k) : aok n (popn k st []).1 ∧ aok n (popn k st []).2 := by
  have e := popn_eq k st [] (by rw [hl]; rfl)
  have e : (popn k st []).1.reverse ++ (popn k st []).2 = st := e
  refine ⟨fun v hv => h v ?_, fun v hv => h v ?_⟩
  · rw [← e]; exact List.mem_append_left _ (List.mem_reverse.mpr hv)
  · rw [← e]; exact List.mem_append_right _ hv
theorem pop_map (g : aG) {k : Nat} {st : List aV} (hl : (popn k st []).1.length = k) : st.map (av g) = ((popn k st []).1.map (av g)).reverse ++ (popn k st []).2.map (av g) := by
  have e := popn_eq k st [] (by rw [hl]; rfl)
  have e : (popn k st []).1.reverse ++ (popn k st []).2 = st := e
  rw [← List.map_reverse, ← List.map_append, e]
theorem st_cs {own : String} {bytes : ByteArray} {ret : Option FieldType} {nm : String} {nL lv pc n : Nat} {M na k1 k2 idx : Nat} (hd : decode bytes pc = .ok (.invokestatic idx, 3)) (hn : pc + 3 = n) (w1 : Cond.methodLink own idx (mY M) ∈ lw_g) (w2 : Cond.static (mY M) ∈ lw_g) (w3 : Cond.initialized (mY M).cls ∈ lw_g) (w4 : Cond.code (mY M) (mB M) (mmx M) (mRt M) ∈ lw_g) (hnp : (parseMethodDescriptor (mY M).desc).map (fun d => d.parameters.length) = some na) (hy : (mY M).cls ≠ "java/lang/invoke/MethodHandle" ∧ (mY M).cls ≠ "java/lang/invoke/VarHandle") (hk1 : mk1 M = k1) (hk2 : mk2 M = k2) : SOK own bytes ret nm nL lv pc (x_cs M na n k1 k2) := by
  intro g p l e R s m args below meth c call Q n0 hC hO P' hP L st u cc ss hq H ls locs cells slots hRp hl hoL hoS hlo h1 h2 h0
  obtain ⟨hx, hb, hr, hml, hown, hts, hlk, hnm, hK, hfr, hlw⟩ := hC
  subst hn
  subst hk1
  subst hk2
  obtain ⟨hlen, hla, hq⟩ := z_popo hq
  obtain ⟨c', hc', hq⟩ := z_co hq
  obtain ⟨s', hs', hq⟩ := z_co hq
  obtain ⟨rm, hM, r1, r2, r3, r4⟩ := hO _ _ _ _ hq
  obtain ⟨okA, okR⟩ := pop_ok hoS hla
  have hsig : ∀ sig, parseMethodDescriptor (mY M).desc = some sig → na = sig.parameters.length := fun sig h => by
    rw [h] at hnp
    exact (Option.some.inj hnp).symm
  have hcs := cat_wds g (popn na st []).2
  have hwr : 2 * (F0 m pc ls (st.map (av g))).monitorRoom + ((((popn na st []).2).map (av g)).map fun v => v.category).sum ≤ 8 := by
    show 2 * 0 + _ ≤ 8
    omega
  have hrun := va_runS (Ts := lw_g) (own := own) (index := idx) (As := (popn na st []).1.map (av g)) (rest := (popn na st []).2.map (av g)) (g := F0 m pc ls (st.map (av g))) (p := p) (e := e) (below := below) (meth := meth) (locs := locs) (H := H) (cells := cells) (slots := slots) ⟨hx, hb, hml, hown, hts⟩ hM ⟨⟨r1, r2, r3, r4, lw_g_warm hts M w4, List.mem_cons_self, hts _ w4, hts _ w3, hy, hsig, hts _ w1⟩, hts _ w2⟩ ⟨aPc_blind _ _ _, fun U hU hW => ⟨rfl, by rw [hU]; exact hRp, okA, hK.warm hW⟩⟩ rfl (by rw [List.length_map]; exact hla) hl.2.1 (pop_map g hla) hwr hd (by omega)
  refine a_goes hrun hlo (fun r u' H1 locs1 hq1 hrep hok hmono hlo1 => ?_)
  rw [rcons_map]
  exact hP _ _ _ _ _ _ hq1 H1 ls locs1 _ _ hrep hl (aok_mono hmono hoL) (rcons_ok hok (aok_mono hmono okR)) hlo1 (by omega) (by omega) (Nat.le_trans h0 hmono)
theorem st_cv {own : String} {bytes : ByteArray} {ret : Option FieldType} {nm : String} {nL lv pc n : Nat} {k M na k1 k2 idx : Nat} {T : u_T} {N : Nat} (hk : k < 9) (hc : vwC[k]? = some ((mY M).cls, T, N)) (hd : decode bytes pc = .ok (.invokevirtual idx, 3)) (hn : pc + 3 = n) (w1 : Cond.methodLink own idx (mY M) ∈ lw_g) (w2 : Cond.instanceMethod (mY M) ∈ lw_g) (w5 : Cond.selects (mY M).cls (mY M) (mY M) ∈ lw_g) (w3 : Cond.initialized (mY M).cls ∈ lw_g) (w4 : Cond.code (mY M) (mB M) (mmx M) (mRt M) ∈ lw_g) (hnp : (parseMethodDescriptor (mY M).desc).map (fun d => d.parameters.length) = some na) (hy : (mY M).cls ≠ "java/lang/invoke/MethodHandle" ∧ (mY M).cls ≠ "java/lang/invoke/VarHandle") (hk1 : mk1 M = k1) (hk2 : mk2 M = k2) : SOK own bytes ret nm nL lv pc (x_cv k M na n k1 k2) := by
  intro g p l e R s m args below meth c call Q n0 hC hO P' hP L st u cc ss hq H ls locs cells slots hRp hl hoL hoS hlo h1 h2 h0
  obtain ⟨hx, hb, hr, hml, hown, hts, hlk, hnm, hK, hfr, hlw⟩ := hC
  subst hn
  subst hk1
  subst hk2
  obtain ⟨hlen, hla, hq⟩ := z_popo hq
  generalize hpe : (popn (na + 1) st []).1 = as at hq
  unfold z_rc at hq
  split at hq
  · rename_i a as'
    obtain ⟨hka, hq⟩ := z_ko hq
    rw [← hpe] at hq
    obtain ⟨c', hc', hq⟩ := z_co hq
    obtain ⟨s', hs', hq⟩ := z_co hq
    obtain ⟨rm, hM, r1, r2, r3, r4⟩ := hO _ _ _ _ hq
    obtain ⟨okA, okR⟩ := pop_ok hoS hla
    have hsig : ∀ sig, parseMethodDescriptor (mY M).desc = some sig → na = sig.parameters.length := fun sig h => by
      rw [h] at hnp
      exact (Option.some.inj hnp).symm
    have hcs := cat_wds g (popn (na + 1) st []).2
    have hwr : 2 * (F0 m pc ls (st.map (av g))).monitorRoom + ((((popn (na + 1) st []).2).map (av g)).map fun v => v.category).sum ≤ 8 := by
      show 2 * 0 + _ ≤ 8
      omega
    rw [hpe] at okA
    obtain ⟨oa, oas⟩ := aok_cons.mp okA
    obtain ⟨cellB, b1, b2, b3, -⟩ := ck_obj (hRp.2.1 a (kd_8 hka (by omega)) (oa a rfl)) hka hk
    have hst : st.map (av g) = (as'.map (av g)).reverse ++ .ref (rho g a) :: (popn (na + 1) st []).2.map (av g) := by
      rw [pop_map g hla, hpe]
      simp [av, ar]
    have hlen2 : as'.length = na := by
      rw [hpe, List.length_cons] at hla
      omega
    have hPc : ∀ U : State, U.heap = H → s.WarmedH U.vm → aPc g (popn (na + 1) st []).1 u (Value.ref (rho g a) :: as'.map (av g)).toArray U := fun U hU hW => ⟨by rw [hpe]; rfl, by rw [hU]; exact hRp, by rw [hpe]; exact okA, hK.warm hW⟩
    have hrun := va_runV (Ts := lw_g) (own := own) (C := (mY M).cls) (index := idx) (As := as'.map (av g)) (b := rho g a) (rest := (popn (na + 1) st []).2.map (av g)) (g := F0 m pc ls (st.map (av g))) (p := p) (e := e) (below := below) (meth := meth) (locs := locs) (H := H) (cells := cells) (slots := slots) ⟨hx, hb, hml, hown, hts⟩ hM ⟨⟨r1, r2, r3, r4, lw_g_warm hts M w4, List.mem_cons_self, hts _ w4, hts _ w3, hy, hsig, hts _ w1⟩, hts _ w2, hts _ w5⟩ ⟨aPc_blind _ _ _, ⟨cellB, b1, by rw [b3]; rfl, by rw [b2]; exact (hK.1.1 k _ hc).2.1⟩, hPc⟩ rfl (by rw [List.length_map]; exact hlen2) hl.2.1 hst hwr hd (by omega)
    refine a_goes hrun hlo (fun r u' H1 locs1 hq1 hrep hok hmono hlo1 => ?_)
    rw [rcons_map]
    exact hP _ _ _ _ _ _ hq1 H1 ls locs1 _ _ hrep hl (aok_mono hmono hoL) (rcons_ok hok (aok_mono hmono okR)) hlo1 (by omega) (by omega) (Nat.le_trans h0 hmono)
  · exact hq.elim
theorem st_ci {own : String} {bytes : ByteArray} {ret : Option FieldType} {nm : String} {nL lv pc n : Nat} {k M na k1 k2 idx : Nat} (hd : decode bytes pc = .ok (.invokespecial idx, 3)) (hn : pc + 3 = n) (w1 : Cond.methodLink own idx (mY M) ∈ lw_g) (w2 : Cond.instanceMethod (mY M) ∈ lw_g) (hin : (mY M).name = "<init>") (hrt : mRt M = none) (w3 : Cond.initialized (mY M).cls ∈ lw_g) (w4 : Cond.code (mY M) (mB M) (mmx M) (mRt M) ∈ lw_g) (hnp : (parseMethodDescriptor (mY M).desc).map (fun d => d.parameters.length) = some na) (hy : (mY M).cls ≠ "java/lang/invoke/MethodHandle" ∧ (mY M).cls ≠ "java/lang/invoke/VarHandle") (hk1 : mk1 M = k1) (hk2 : mk2 M = k2) : SOK own bytes ret nm nL lv pc (x_cv k M na n k1 k2) := by
  intro g p l e R s m args below meth c call Q n0 hC hO P' hP L st u cc ss hq H ls locs cells slots hRp hl hoL hoS hlo h1 h2 h0
  obtain ⟨hx, hb, hr, hml, hown, hts, hlk, hnm, hK, hfr, hlw⟩ := hC
  subst hn
  subst hk1
  subst hk2
  obtain ⟨hlen, hla, hq⟩ := z_popo hq
  generalize hpe : (popn (na + 1) st []).1 = as at hq
  unfold z_rc at hq
  split at hq
  · rename_i a as'
    obtain ⟨hka, hq⟩ := z_ko hq
    rw [← hpe] at hq
    obtain ⟨c', hc', hq⟩ := z_co hq
    obtain ⟨s', hs', hq⟩ := z_co hq
    obtain ⟨rm, hM, r1, r2, r3, r4⟩ := hO _ _ _ _ hq
    obtain ⟨okA, okR⟩ := pop_ok hoS hla
    have hsig : ∀ sig, parseMethodDescriptor (mY M).desc = some sig → na = sig.parameters.length := fun sig h => by
      rw [h] at hnp
      exact (Option.some.inj hnp).symm
    have hcs := cat_wds g (popn (na + 1) st []).2
    have hwr : 2 * (F0 m pc ls (st.map (av g))).monitorRoom + ((((popn (na + 1) st []).2).map (av g)).map fun v => v.category).sum ≤ 8 := by
      show 2 * 0 + _ ≤ 8
      omega
    rw [hpe] at okA
    obtain ⟨oa, oas⟩ := aok_cons.mp okA
    have hst : st.map (av g) = (as'.map (av g)).reverse ++ .ref (rho g a) :: (popn (na + 1) st []).2.map (av g) := by
      rw [pop_map g hla, hpe]
      simp [av, ar]
    have hlen2 : as'.length = na := by
      rw [hpe, List.length_cons] at hla
      omega
    have hPc : ∀ U : State, U.heap = H → s.WarmedH U.vm → aPc g (popn (na + 1) st []).1 u (Value.ref (rho g a) :: as'.map (av g)).toArray U := fun U hU hW => ⟨by rw [hpe]; rfl, by rw [hU]; exact hRp, by rw [hpe]; exact okA, hK.warm hW⟩
    have hww := lw_g_warm hts M w4
    have hmem : Cond.code (mY M) (mB M) (mmx M) none ∈ mW M := by rw [← hrt]; exact List.mem_cons_self
    have hcd : (Cond.code (mY M) (mB M) (mmx M) none).before args s = true := by rw [← hrt]; exact hts _ w4
    have hrun := va_runI (Ts := lw_g) (own := own) (index := idx) (As := as'.map (av g)) (b := rho g a) (rest := (popn (na + 1) st []).2.map (av g)) (g := F0 m pc ls (st.map (av g))) (p := p) (e := e) (below := below) (meth := meth) (locs := locs) (H := H) (cells := cells) (slots := slots) ⟨hx, hb, hml, hown, hts⟩ hM ⟨⟨r1, r2, r3, r4, hww, hmem, hcd, hts _ w3, hy, hsig, hts _ w1⟩, hin, hts _ w2⟩ ⟨aPc_blind _ _ _, hPc⟩ rfl (by rw [List.length_map]; exact hlen2) hl.2.1 hst hwr hd (by omega)
    refine a_goes hrun hlo (fun r u' H1 locs1 hq1 hrep hok hmono hlo1 => ?_)
    rw [rcons_map]
    exact hP _ _ _ _ _ _ hq1 H1 ls locs1 _ _ hrep hl (aok_mono hmono hoL) (rcons_ok hok (aok_mono hmono okR)) hlo1 (by omega) (by omega) (Nat.le_trans h0 hmono)
  · exact hq.elim
theorem st_csN {own : String} {bytes : ByteArray} {ret : Option FieldType} {nm : String} {nL lv pc n : Nat} {M na k1 k2 idx : Nat} (hd : decode bytes pc = .ok (.invokestatic idx, 3)) (hn : pc + 3 = n) {host : String} (w1 : Cond.methodLinkNest own idx (mY M) host ∈ lw_tbl) (w2 : Cond.static (mY M) ∈ lw_g) (w3 : Cond.initialized (mY M).cls ∈ lw_g) (w4 : Cond.code (mY M) (mB M) (mmx M) (mRt M) ∈ lw_g) (hnp : (parseMethodDescriptor (mY M).desc).map (fun d => d.parameters.length) = some na) (hy : (mY M).cls ≠ "java/lang/invoke/MethodHandle" ∧ (mY M).cls ≠ "java/lang/invoke/VarHandle") (hk1 : mk1 M = k1) (hk2 : mk2 M = k2) : SOK own bytes ret nm nL lv pc (x_cs M na n k1 k2) := by
  intro g p l e R s m args below meth c call Q n0 hC hO P' hP L st u cc ss hq H ls locs cells slots hRp hl hoL hoS hlo h1 h2 h0
  obtain ⟨hx, hb, hr, hml, hown, hts, hlk, hnm, hK, hfr, hlw⟩ := hC
  subst hn
  subst hk1
  subst hk2
  obtain ⟨hlen, hla, hq⟩ := z_popo hq
  obtain ⟨c', hc', hq⟩ := z_co hq
  obtain ⟨s', hs', hq⟩ := z_co hq
  obtain ⟨rm, hM, r1, r2, r3, r4⟩ := hO _ _ _ _ hq
  obtain ⟨okA, okR⟩ := pop_ok hoS hla
  have hsig : ∀ sig, parseMethodDescriptor (mY M).desc = some sig → na = sig.parameters.length := fun sig h => by
    rw [h] at hnp
    exact (Option.some.inj hnp).symm
  have hcs := cat_wds g (popn na st []).2
  have hwr : 2 * (F0 m pc ls (st.map (av g))).monitorRoom + ((((popn na st []).2).map (av g)).map fun v => v.category).sum ≤ 8 := by
    show 2 * 0 + _ ≤ 8
    omega
  have hrun := va_runSN (Ts := lw_g) (own := own) (index := idx) (As := (popn na st []).1.map (av g)) (rest := (popn na st []).2.map (av g)) (g := F0 m pc ls (st.map (av g))) (p := p) (e := e) (below := below) (meth := meth) (locs := locs) (H := H) (cells := cells) (slots := slots) ⟨hx, hb, hml, hown, hts⟩ hM ⟨⟨⟨r1, r2, r3, r4, lw_g_warm hts M w4, List.mem_cons_self⟩, hts _ w4, hts _ w3, hy, hsig, va_Nw.use rfl (hK.2.1 _ w1 rfl)⟩, hts _ w2, trivial⟩ ⟨aPc_blind _ _ _, fun U hU hW => ⟨rfl, by rw [hU]; exact hRp, okA, hK.warm hW⟩⟩ rfl (by rw [List.length_map]; exact hla) hl.2.1 (pop_map g hla) hwr hd (by omega)
  refine a_goes hrun hlo (fun r u' H1 locs1 hq1 hrep hok hmono hlo1 => ?_)
  rw [rcons_map]
  exact hP _ _ _ _ _ _ hq1 H1 ls locs1 _ _ hrep hl (aok_mono hmono hoL) (rcons_ok hok (aok_mono hmono okR)) hlo1 (by omega) (by omega) (Nat.le_trans h0 hmono)
theorem st_cvN {own : String} {bytes : ByteArray} {ret : Option FieldType} {nm : String} {nL lv pc n : Nat} {k M na k1 k2 idx : Nat} {T : u_T} {N : Nat} (hk : k < 9) (hc : vwC[k]? = some ((mY M).cls, T, N)) (hd : decode bytes pc = .ok (.invokevirtual idx, 3)) (hn : pc + 3 = n) {host : String} (w1 : Cond.methodLinkNest own idx (mY M) host ∈ lw_tbl) (w2 : Cond.instanceMethod (mY M) ∈ lw_g) (w5 : Cond.selects (mY M).cls (mY M) (mY M) ∈ lw_g) (w3 : Cond.initialized (mY M).cls ∈ lw_g) (w4 : Cond.code (mY M) (mB M) (mmx M) (mRt M) ∈ lw_g) (hnp : (parseMethodDescriptor (mY M).desc).map (fun d => d.parameters.length) = some na) (hy : (mY M).cls ≠ "java/lang/invoke/MethodHandle" ∧ (mY M).cls ≠ "java/lang/invoke/VarHandle") (hk1 : mk1 M = k1) (hk2 : mk2 M = k2) : SOK own bytes ret nm nL lv pc (x_cv k M na n k1 k2) := by
  intro g p l e R s m args below meth c call Q n0 hC hO P' hP L st u cc ss hq H ls locs cells slots hRp hl hoL hoS hlo h1 h2 h0
  obtain ⟨hx, hb, hr, hml, hown, hts, hlk, hnm, hK, hfr, hlw⟩ := hC
  subst hn
  subst hk1
  subst hk2
  obtain ⟨hlen, hla, hq⟩ := z_popo hq
  generalize hpe : (popn (na + 1) st []).1 = as at hq
  unfold z_rc at hq
  split at hq
  · rename_i a as'
    obtain ⟨hka, hq⟩ := z_ko hq
    rw [← hpe] at hq
    obtain ⟨c', hc', hq⟩ := z_co hq
    obtain ⟨s', hs', hq⟩ := z_co hq
    obtain ⟨rm, hM, r1, r2, r3, r4⟩ := hO _ _ _ _ hq
    obtain ⟨okA, okR⟩ := pop_ok hoS hla
    have hsig : ∀ sig, parseMethodDescriptor (mY M).desc = some sig → na = sig.parameters.length := fun sig h => by
      rw [h] at hnp
      exact (Option.some.inj hnp).symm
    have hcs := cat_wds g (popn (na + 1) st []).2
    have hwr : 2 * (F0 m pc ls (st.map (av g))).monitorRoom + ((((popn (na + 1) st []).2).map (av g)).map fun v => v.category).sum ≤ 8 := by
      show 2 * 0 + _ ≤ 8
      omega
    rw [hpe] at okA
    obtain ⟨oa, oas⟩ := aok_cons.mp okA
    obtain ⟨cellB, b1, b2, b3, -⟩ := ck_obj (hRp.2.1 a (kd_8 hka (by omega)) (oa a rfl)) hka hk
    have hst : st.map (av g) = (as'.map (av g)).reverse ++ .ref (rho g a) :: (popn (na + 1) st []).2.map (av g) := by
      rw [pop_map g hla, hpe]
      simp [av, ar]
    have hlen2 : as'.length = na := by
      rw [hpe, List.length_cons] at hla
      omega
    have hPc : ∀ U : State, U.heap = H → s.WarmedH U.vm → aPc g (popn (na + 1) st []).1 u (Value.ref (rho g a) :: as'.map (av g)).toArray U := fun U hU hW => ⟨by rw [hpe]; rfl, by rw [hU]; exact hRp, by rw [hpe]; exact okA, hK.warm hW⟩
    have hrun := va_runVN (Ts := lw_g) (own := own) (C := (mY M).cls) (index := idx) (As := as'.map (av g)) (b := rho g a) (rest := (popn (na + 1) st []).2.map (av g)) (g := F0 m pc ls (st.map (av g))) (p := p) (e := e) (below := below) (meth := meth) (locs := locs) (H := H) (cells := cells) (slots := slots) ⟨hx, hb, hml, hown, hts⟩ hM ⟨⟨⟨r1, r2, r3, r4, lw_g_warm hts M w4, List.mem_cons_self⟩, hts _ w4, hts _ w3, hy, hsig, va_Nw.use rfl (hK.2.1 _ w1 rfl)⟩, hts _ w2, hts _ w5⟩ ⟨aPc_blind _ _ _, ⟨cellB, b1, by rw [b3]; rfl, by rw [b2]; exact (hK.1.1 k _ hc).2.1⟩, hPc⟩ rfl (by rw [List.length_map]; exact hlen2) hl.2.1 hst hwr hd (by omega)
    refine a_goes hrun hlo (fun r u' H1 locs1 hq1 hrep hok hmono hlo1 => ?_)
    rw [rcons_map]
    exact hP _ _ _ _ _ _ hq1 H1 ls locs1 _ _ hrep hl (aok_mono hmono hoL) (rcons_ok hok (aok_mono hmono okR)) hlo1 (by omega) (by omega) (Nat.le_trans h0 hmono)
  · exact hq.elim
theorem st_ciN {own : String} {bytes : ByteArray} {ret : Option FieldType} {nm : String} {nL lv pc n : Nat} {k M na k1 k2 idx : Nat} (hd : decode bytes pc = .ok (.invokespecial idx, 3)) (hn : pc + 3 = n) {host : String} (w1 : Cond.methodLinkNest own idx (mY M) host ∈ lw_tbl) (w2 : Cond.instanceMethod (mY M) ∈ lw_g) (hin : (mY M).name = "<init>") (hrt : mRt M = none) (w3 : Cond.initialized (mY M).cls ∈ lw_g) (w4 : Cond.code (mY M) (mB M) (mmx M) (mRt M) ∈ lw_g) (hnp : (parseMethodDescriptor (mY M).desc).map (fun d => d.parameters.length) = some na) (hy : (mY M).cls ≠ "java/lang/invoke/MethodHandle" ∧ (mY M).cls ≠ "java/lang/invoke/VarHandle") (hk1 : mk1 M = k1) (hk2 : mk2 M = k2) : SOK own bytes ret nm nL lv pc (x_cv k M na n k1 k2) := by
  intro g p l e R s m args below meth c call Q n0 hC hO P' hP L st u cc ss hq H ls locs cells slots hRp hl hoL hoS hlo h1 h2 h0
  obtain ⟨hx, hb, hr, hml, hown, hts, hlk, hnm, hK, hfr, hlw⟩ := hC
  subst hn
  subst hk1
  subst hk2
  obtain ⟨hlen, hla, hq⟩ := z_popo hq
  generalize hpe : (popn (na + 1) st []).1 = as at hq
  unfold z_rc at hq
  split at hq
  · rename_i a as'
    obtain ⟨hka, hq⟩ := z_ko hq
    rw [← hpe] at hq
    obtain ⟨c', hc', hq⟩ := z_co hq
    obtain ⟨s', hs', hq⟩ := z_co hq
    obtain ⟨rm, hM, r1, r2, r3, r4⟩ := hO _ _ _ _ hq
    obtain ⟨okA, okR⟩ := pop_ok hoS hla
    have hsig : ∀ sig, parseMethodDescriptor (mY M).desc = some sig → na = sig.parameters.length := fun sig h => by
      rw [h] at hnp
      exact (Option.some.inj hnp).symm
    have hcs := cat_wds g (popn (na + 1) st []).2
    have hwr : 2 * (F0 m pc ls (st.map (av g))).monitorRoom + ((((popn (na + 1) st []).2).map (av g)).map fun v => v.category).sum ≤ 8 := by
      show 2 * 0 + _ ≤ 8
      omega
    rw [hpe] at okA
    obtain ⟨oa, oas⟩ := aok_cons.mp okA
    have hst : st.map (av g) = (as'.map (av g)).reverse ++ .ref (rho g a) :: (popn (na + 1) st []).2.map (av g) := by
      rw [pop_map g hla, hpe]
      simp [av, ar]
    have hlen2 : as'.length = na := by
      rw [hpe, List.length_cons] at hla
      omega
    have hPc : ∀ U : State, U.heap = H → s.WarmedH U.vm → aPc g (popn (na + 1) st []).1 u (Value.ref (rho g a) :: as'.map (av g)).toArray U := fun U hU hW => ⟨by rw [hpe]; rfl, by rw [hU]; exact hRp, by rw [hpe]; exact okA, hK.warm hW⟩
    have hww := lw_g_warm hts M w4
    have hmem : Cond.code (mY M) (mB M) (mmx M) none ∈ mW M := by rw [← hrt]; exact List.mem_cons_self
    have hcd : (Cond.code (mY M) (mB M) (mmx M) none).before args s = true := by rw [← hrt]; exact hts _ w4
    have hrun := va_runIN (Ts := lw_g) (own := own) (index := idx) (As := as'.map (av g)) (b := rho g a) (rest := (popn (na + 1) st []).2.map (av g)) (g := F0 m pc ls (st.map (av g))) (p := p) (e := e) (below := below) (meth := meth) (locs := locs) (H := H) (cells := cells) (slots := slots) ⟨hx, hb, hml, hown, hts⟩ hM ⟨⟨⟨r1, r2, r3, r4, hww, hmem⟩, hcd, hts _ w3, hy, hsig, va_Nw.use rfl (hK.2.1 _ w1 rfl)⟩, hin, hts _ w2⟩ ⟨aPc_blind _ _ _, hPc⟩ rfl (by rw [List.length_map]; exact hlen2) hl.2.1 hst hwr hd (by omega)
    refine a_goes hrun hlo (fun r u' H1 locs1 hq1 hrep hok hmono hlo1 => ?_)
    rw [rcons_map]
    exact hP _ _ _ _ _ _ hq1 H1 ls locs1 _ _ hrep hl (aok_mono hmono hoL) (rcons_ok hok (aok_mono hmono okR)) hlo1 (by omega) (by omega) (Nat.le_trans h0 hmono)
  · exact hq.elim
