/-! the written words: length() and charAt() of String, walked with the kit's rows; printed by wip/whole/str.py -/
def jW (y : MethodName) (b : ByteArray) (mx : Nat) (rt : Option FieldType) : List Cond := .code y b mx rt :: lw_g
theorem jW_warm {args : Array Value} {s : State} (hts : ∀ w ∈ lw_g, w.before args s = true) {y : MethodName} {b : ByteArray} {mx : Nat} {rt : Option FieldType} (hc : Cond.code y b mx rt ∈ lw_g) : ∀ w ∈ jW y b mx rt, ∀ (a' : Array Value) (U : State), s.WarmedH U.vm → w.before a' U = true := by
  have key : ∀ w ∈ lw_g, ∀ (a' : Array Value) (U : State), s.WarmedH U.vm → w.before a' U = true := fun w hw a' U hW => word_at hW (good_of_word (List.mem_filter.mp hw).2) (hts w hw)
  intro w hw
  rcases List.mem_cons.mp hw with e | hw
  · rw [e]; exact key _ hc
  · exact key w hw
def sPc (g : aG) (vs : List Value) (Hx : Heap) : Array Value → State → Prop := fun v U => v = vs.toArray ∧ U.heap = Hx ∧ (∀ q, q < (gH g).size → Hx[q]? = (gH g)[q]?) ∧ strS g U
def sQc (r : Option Value) : Array Value → State → Outcome → State → Prop := fun _ st o t => o = .returned r ∧ t.heap = st.heap
theorem sPc_blind (g : aG) (vs : List Value) (Hx : Heap) : FrameBlind (sPc g vs Hx) := fun a U gf mk h => ⟨h.1, h.2.1, h.2.2.1, h.2.2.2.same rfl⟩
section SGO
variable {p : Program} {l : Launch} {e : Env} {R : Room} {s : State} {m : MethodId} {args : Array Value} {below : List Frame} {meth : Method} {c : Code} {H : Heap} {locs : List Loc} {cells slots : Nat} {Q : State → Prop}
theorem s_goes {g : aG} {r : Option Value} {pc : Nat} {ls : Array Slot} {st0 rest : List Value} {a : Array Value} (hr : va_Run p l e R s m args below meth c H locs cells slots 0 0 (F0 m pc ls st0) rest (sQc r a) (aFr g)) (hlo : ∀ q ∈ locs, aFr g q.base)
    (kk : ∀ (locs1 : List Loc), (∀ q ∈ locs1, aFr g q.base) → W p l e R s m args below meth c H locs1 cells slots Q (F0 m (pc + 3) ls (r.toList ++ rest))) : W p l e R s m args below meth c H locs cells slots Q (F0 m pc ls st0) := by
  intro T hT X
  obtain ⟨v, st₀, t, T', L, h0, X', hL, e1, e2, ⟨hv, hh⟩, st⟩ := hr T hT X
  cases hv
  obtain ⟨t2, a1, b1⟩ := kk (locs ++ L) (fun q hq => by
    rcases List.mem_append.mp hq with h | h
    · exact hlo q h
    · exact hL q h) T' (by rw [e1, hh, h0]) X'
  exact ⟨t2, st t2 a1, b1⟩
end SGO
theorem str_at {g : aG} {s : State} {Hx : Heap} (hS : strS g s) (hq : ∀ q, q < (gH g).size → Hx[q]? = (gH g)[q]?) {i : Nat} (hi : i < 7) : va_O "java/lang/String" (g.2.2.2.1 (i + 1)) (aFr g) s Hx ∧ va_OF "java/lang/String" "coder" "B" (.int 0) (g.2.2.2.1 (i + 1)) (aFr g) s Hx ∧ va_OF "java/lang/String" "value" "[B" (.ref (g.2.2.2.1 (i + 11))) (g.2.2.2.1 (i + 1)) (aFr g) s Hx ∧ va_T .byte (g.2.2.2.1 (i + 11)) (lenJ.getD i 0) (fun j => .int ((bytJ.getD i []).getD j 0)) (aFr g) s Hx := by
  have hk : ∀ a : Nat, a < (gH g).size → ¬ aFr g a → Hx[a]? = (gH g)[a]? := fun a ha _ => hq a ha
  obtain ⟨a1, a2, a3, a4⟩ := hS.2.1.1 i hi
  exact ⟨a1.kept hk, a2.kept hk, a3.kept hk, a4.kept hk⟩
set_option maxRecDepth 20000 in
theorem j_coder (g : aG) (l : Launch) (Hx : Heap) {i : Nat} (hi : i < 7) : Met l yJ0_coder_7d493 (jW yJ0_coder_7d493 cJ0_coder_7d493 1 (some .byte)) { frames := 0, cells := 0, slots := 0, locals := 0 } (sPc g ([.ref (g.2.2.2.1 (i + 1))]) Hx) (sQc (some (.int 0))) 0 0 (aFr g) := by
  refine Met.ofW (cc := cJ0_coder_7d493) (maxL := 1) (ret := some .byte) (by decide) rfl ?_
  intro p e s m args below meth c s₁ B hml hv
  obtain ⟨rfl, hH, hq, hS⟩ := hv
  have hx := B.exec
  have hb := B.bytes
  have hr := B.returns
  have hts0 := atoms_spec (ws := jW yJ0_coder_7d493 cJ0_coder_7d493 1 (some .byte)) B.pre
  have hts : ∀ w ∈ lw_g, w.before _ s = true := fun w hw => hts0 w (List.mem_cons_of_mem _ hw)
  have hown : s.vm.findClass RJ0 = some m.cls := findClass_of_methodNamed B.named
  have hlk := B.notSynchronized
  subst hH
  have hk : ∀ a : Nat, a < (gH g).size → ¬ aFr g a → s.heap[a]? = (gH g)[a]? := fun a ha _ => hq a ha
  have hSS : va_S (aFr g) s.heap s.heap [] := va_S.rf
  have hl := lv_entry ([.ref (g.2.2.2.1 (i + 1))]) (n := 1) (Nat.le_of_ble_eq_true rfl)
  rw [lg_entry_eq]
  generalize (lg_sl ([.ref (g.2.2.2.1 (i + 1))]) ++ List.replicate (1 - (lg_sl ([.ref (g.2.2.2.1 (i + 1))])).length) Slot.unset).toArray = ls at hl ⊢
  obtain ⟨a1, a2, a3, a4⟩ := str_at hS hq hi
  refine va_gets hx hb (hS.2.2.1.kept hk) hSS hown (hts _ v_358) (fun _ h9 => h9) dJ0_coder_7d493_0 ?_
  refine lv_if_eq hx hb dJ0_coder_7d493_3 (tgt := 13) rfl (fun h => absurd h (by decide)) (fun _ => ?_)
  refine lv_aload_n hx hb dJ0_coder_7d493_6 rfl (lv_at hl 0 rfl) ?_
  refine vk_getf hx hb a2 hSS hown (hts _ v_1256) (fun _ h9 => h9) dJ0_coder_7d493_7 ?_
  refine lv_goto hx hb dJ0_coder_7d493_10 (tgt := 14) rfl ?_
  exact W.zret (ty := .byte) hx hb hr rfl (fun t ht hW => ⟨rfl, ht⟩) (fun q h => by cases h) dJ0_coder_7d493_14 hlk
set_option maxRecDepth 20000 in
theorem j_latin (g : aG) (l : Launch) (Hx : Heap) {i : Nat} (hi : i < 7) : Met l yJ0_isLatin1_aae02 (jW yJ0_isLatin1_aae02 cJ0_isLatin1_aae02 1 (some .boolean)) { frames := 0, cells := 0, slots := 0, locals := 0 } (sPc g ([.ref (g.2.2.2.1 (i + 1))]) Hx) (sQc (some (.int 1))) 0 0 (aFr g) := by
  refine Met.ofW (cc := cJ0_isLatin1_aae02) (maxL := 1) (ret := some .boolean) (by decide) rfl ?_
  intro p e s m args below meth c s₁ B hml hv
  obtain ⟨rfl, hH, hq, hS⟩ := hv
  have hx := B.exec
  have hb := B.bytes
  have hr := B.returns
  have hts0 := atoms_spec (ws := jW yJ0_isLatin1_aae02 cJ0_isLatin1_aae02 1 (some .boolean)) B.pre
  have hts : ∀ w ∈ lw_g, w.before _ s = true := fun w hw => hts0 w (List.mem_cons_of_mem _ hw)
  have hown : s.vm.findClass RJ0 = some m.cls := findClass_of_methodNamed B.named
  have hlk := B.notSynchronized
  subst hH
  have hk : ∀ a : Nat, a < (gH g).size → ¬ aFr g a → s.heap[a]? = (gH g)[a]? := fun a ha _ => hq a ha
  have hSS : va_S (aFr g) s.heap s.heap [] := va_S.rf
  have hl := lv_entry ([.ref (g.2.2.2.1 (i + 1))]) (n := 1) (Nat.le_of_ble_eq_true rfl)
  rw [lg_entry_eq]
  generalize (lg_sl ([.ref (g.2.2.2.1 (i + 1))]) ++ List.replicate (1 - (lg_sl ([.ref (g.2.2.2.1 (i + 1))])).length) Slot.unset).toArray = ls at hl ⊢
  obtain ⟨a1, a2, a3, a4⟩ := str_at hS hq hi
  refine va_gets hx hb (hS.2.2.1.kept hk) hSS hown (hts _ v_358) (fun _ h9 => h9) dJ0_isLatin1_aae02_0 ?_
  refine lv_if_eq hx hb dJ0_isLatin1_aae02_3 (tgt := 17) rfl (fun h => absurd h (by decide)) (fun _ => ?_)
  refine lv_aload_n hx hb dJ0_isLatin1_aae02_6 rfl (lv_at hl 0 rfl) ?_
  refine vk_getf hx hb a2 hSS hown (hts _ v_1256) (fun _ h9 => h9) dJ0_isLatin1_aae02_7 ?_
  refine lv_if_ne hx hb dJ0_isLatin1_aae02_10 (tgt := 17) rfl (fun h => absurd rfl h) (fun _ => ?_)
  refine lv_iconst hx hb dJ0_isLatin1_aae02_13 (v := 1) rfl ?_
  refine lv_goto hx hb dJ0_isLatin1_aae02_14 (tgt := 18) rfl ?_
  exact W.zret (ty := .boolean) hx hb hr rfl (fun t ht hW => ⟨rfl, ht⟩) (fun q h => by cases h) dJ0_isLatin1_aae02_18 hlk
set_option maxRecDepth 20000 in
theorem j_len (g : aG) (l : Launch) (Hx : Heap) {i : Nat} (hi : i < 7) : Met l yJ0_length_8abf5 (jW yJ0_length_8abf5 cJ0_length_8abf5 1 (some .int)) { frames := 1, cells := 0, slots := 0, locals := 40 } (sPc g ([.ref (g.2.2.2.1 (i + 1))]) Hx) (sQc (some (.int (Int32.ofNat (lenJ.getD i 0))))) 0 0 (aFr g) := by
  refine Met.ofW (cc := cJ0_length_8abf5) (maxL := 1) (ret := some .int) (by decide) rfl ?_
  intro p e s m args below meth c s₁ B hml hv
  obtain ⟨rfl, hH, hq, hS⟩ := hv
  have hx := B.exec
  have hb := B.bytes
  have hr := B.returns
  have hts0 := atoms_spec (ws := jW yJ0_length_8abf5 cJ0_length_8abf5 1 (some .int)) B.pre
  have hts : ∀ w ∈ lw_g, w.before _ s = true := fun w hw => hts0 w (List.mem_cons_of_mem _ hw)
  have hown : s.vm.findClass RJ0 = some m.cls := findClass_of_methodNamed B.named
  have hlk := B.notSynchronized
  subst hH
  have hk : ∀ a : Nat, a < (gH g).size → ¬ aFr g a → s.heap[a]? = (gH g)[a]? := fun a ha _ => hq a ha
  have hSS : va_S (aFr g) s.heap s.heap [] := va_S.rf
  have hl := lv_entry ([.ref (g.2.2.2.1 (i + 1))]) (n := 1) (Nat.le_of_ble_eq_true rfl)
  rw [lg_entry_eq]
  generalize (lg_sl ([.ref (g.2.2.2.1 (i + 1))]) ++ List.replicate (1 - (lg_sl ([.ref (g.2.2.2.1 (i + 1))])).length) Slot.unset).toArray = ls at hl ⊢
  obtain ⟨a1, a2, a3, a4⟩ := str_at hS hq hi
  refine lv_aload_n hx hb dJ0_length_8abf5_0 rfl (lv_at hl 0 rfl) ?_
  refine vk_getf hx hb a3 hSS hown (hts _ v_1255) (fun _ h9 => h9) dJ0_length_8abf5_1 ?_
  obtain ⟨cell, t1, t2, t3, t4, t5, t6, t7⟩ := a4
  refine W.alen (n := Int32.ofNat (lenJ.getD i 0)) hx hb t1 t2 t5 rfl rfl dJ0_length_8abf5_4 ?_
  refine lv_aload_n hx hb dJ0_length_8abf5_5 rfl (lv_at hl 0 rfl) ?_
  obtain ⟨cellB, b1, b2, b3, -⟩ := a1
  have hrun := va_runV (R := (headSpec (jW yJ0_length_8abf5 cJ0_length_8abf5 1 (some .int)) { frames := 1, cells := 0, slots := 0, locals := 40 }).room) (Ts := lw_g) (own := RJ0) (C := "java/lang/String") (index := 335) (As := []) (b := g.2.2.2.1 (i + 1)) (rest := [.int (Int32.ofNat (lenJ.getD i 0))]) (g := F0 m 6 ls [.ref (g.2.2.2.1 (i + 1)), .int (Int32.ofNat (lenJ.getD i 0))]) (p := p) (e := e) (below := below) (meth := meth) (locs := []) (H := s.heap) (cells := 0) (slots := 0) ⟨hx, hb, hml, hown, hts⟩ (j_coder g l s.heap hi) ⟨⟨rfl, rfl, Nat.le_of_ble_eq_true rfl, Nat.le_of_ble_eq_true rfl, jW_warm hts v_357, List.mem_cons_self, hts _ v_357, hts _ v_109, by decide, fun sig h => by cases h; rfl, hts _ v_354⟩, hts _ v_355, hts _ v_356⟩ ⟨sPc_blind _ _ _, ⟨cellB, b1, b2, b3⟩, fun U hU hW => ⟨rfl, hU, hq, hS.warm hW⟩⟩ rfl rfl hl.1 rfl (Nat.le_of_ble_eq_true rfl) dJ0_length_8abf5_6 ⟨Nat.le_of_ble_eq_true rfl, Nat.le_of_ble_eq_true rfl⟩
  refine s_goes hrun (fun q h => by cases h) (fun locs1 hlo1 => ?_)
  refine lv_ishr hx hb dJ0_length_8abf5_9 ?_
  rw [show ∀ x : Int32, x >>> ((0 : Int32) &&& 31) = x from sb_shr0]
  exact W.iret hx hb hr (fun t ht hW => ⟨rfl, ht⟩) hlo1 dJ0_length_8abf5_10 hlk
set_option maxRecDepth 20000 in
theorem j_preN (g : aG) (l : Launch) (Hx : Heap) {i n : Nat} (hi : i < n) (hn : n < 100) : Met l yJ3_checkIndex_8e157 (jW yJ3_checkIndex_8e157 cJ3_checkIndex_8e157 3 (some .int)) { frames := 0, cells := 0, slots := 0, locals := 0 } (sPc g ([.int (Int32.ofNat i), .int (Int32.ofNat n), .null]) Hx) (sQc (some (.int (Int32.ofNat i)))) 0 0 (aFr g) := by
  refine Met.ofW (cc := cJ3_checkIndex_8e157) (maxL := 3) (ret := some .int) (by decide) rfl ?_
  intro p e s m args below meth c s₁ B hml hv
  obtain ⟨rfl, hH, hq, hS⟩ := hv
  have hx := B.exec
  have hb := B.bytes
  have hr := B.returns
  have hts0 := atoms_spec (ws := jW yJ3_checkIndex_8e157 cJ3_checkIndex_8e157 3 (some .int)) B.pre
  have hts : ∀ w ∈ lw_g, w.before _ s = true := fun w hw => hts0 w (List.mem_cons_of_mem _ hw)
  have hown : s.vm.findClass RJ3 = some m.cls := findClass_of_methodNamed B.named
  have hlk := B.notSynchronized
  subst hH
  have hk : ∀ a : Nat, a < (gH g).size → ¬ aFr g a → s.heap[a]? = (gH g)[a]? := fun a ha _ => hq a ha
  have hSS : va_S (aFr g) s.heap s.heap [] := va_S.rf
  have hl := lv_entry ([.int (Int32.ofNat i), .int (Int32.ofNat n), .null]) (n := 3) (Nat.le_of_ble_eq_true rfl)
  rw [lg_entry_eq]
  generalize (lg_sl ([.int (Int32.ofNat i), .int (Int32.ofNat n), .null]) ++ List.replicate (3 - (lg_sl ([.int (Int32.ofNat i), .int (Int32.ofNat n), .null])).length) Slot.unset).toArray = ls at hl ⊢
  refine lv_iload_n hx hb dJ3_checkIndex_8e157_0 rfl (lv_at hl 0 rfl) ?_
  refine lv_if_lt hx hb dJ3_checkIndex_8e157_1 (tgt := 9) rfl (fun h => absurd h (nI_pos (by omega))) (fun _ => ?_)
  refine lv_iload_n hx hb dJ3_checkIndex_8e157_4 rfl (lv_at hl 0 rfl) ?_
  refine lv_iload_n hx hb dJ3_checkIndex_8e157_5 rfl (lv_at hl 1 rfl) ?_
  refine lv_icmp_lt hx hb dJ3_checkIndex_8e157_6 (tgt := 16) rfl (fun _ => ?_) (fun h => absurd (nI_lt hi (by omega)) h)
  refine lv_iload_n hx hb dJ3_checkIndex_8e157_16 rfl (lv_at hl 0 rfl) ?_
  exact W.iret hx hb hr (fun t ht hW => ⟨rfl, ht⟩) (fun q h => by cases h) dJ3_checkIndex_8e157_17 hlk
set_option maxRecDepth 20000 in
theorem j_preR (g : aG) (l : Launch) (Hx : Heap) {i n : Nat} {a : Nat} (hi : i < n) (hn : n < 100) : Met l yJ3_checkIndex_8e157 (jW yJ3_checkIndex_8e157 cJ3_checkIndex_8e157 3 (some .int)) { frames := 0, cells := 0, slots := 0, locals := 0 } (sPc g ([.int (Int32.ofNat i), .int (Int32.ofNat n), .ref a]) Hx) (sQc (some (.int (Int32.ofNat i)))) 0 0 (aFr g) := by
  refine Met.ofW (cc := cJ3_checkIndex_8e157) (maxL := 3) (ret := some .int) (by decide) rfl ?_
  intro p e s m args below meth c s₁ B hml hv
  obtain ⟨rfl, hH, hq, hS⟩ := hv
  have hx := B.exec
  have hb := B.bytes
  have hr := B.returns
  have hts0 := atoms_spec (ws := jW yJ3_checkIndex_8e157 cJ3_checkIndex_8e157 3 (some .int)) B.pre
  have hts : ∀ w ∈ lw_g, w.before _ s = true := fun w hw => hts0 w (List.mem_cons_of_mem _ hw)
  have hown : s.vm.findClass RJ3 = some m.cls := findClass_of_methodNamed B.named
  have hlk := B.notSynchronized
  subst hH
  have hk : ∀ a : Nat, a < (gH g).size → ¬ aFr g a → s.heap[a]? = (gH g)[a]? := fun a ha _ => hq a ha
  have hSS : va_S (aFr g) s.heap s.heap [] := va_S.rf
  have hl := lv_entry ([.int (Int32.ofNat i), .int (Int32.ofNat n), .ref a]) (n := 3) (Nat.le_of_ble_eq_true rfl)
  rw [lg_entry_eq]
  generalize (lg_sl ([.int (Int32.ofNat i), .int (Int32.ofNat n), .ref a]) ++ List.replicate (3 - (lg_sl ([.int (Int32.ofNat i), .int (Int32.ofNat n), .ref a])).length) Slot.unset).toArray = ls at hl ⊢
  refine lv_iload_n hx hb dJ3_checkIndex_8e157_0 rfl (lv_at hl 0 rfl) ?_
  refine lv_if_lt hx hb dJ3_checkIndex_8e157_1 (tgt := 9) rfl (fun h => absurd h (nI_pos (by omega))) (fun _ => ?_)
  refine lv_iload_n hx hb dJ3_checkIndex_8e157_4 rfl (lv_at hl 0 rfl) ?_
  refine lv_iload_n hx hb dJ3_checkIndex_8e157_5 rfl (lv_at hl 1 rfl) ?_
  refine lv_icmp_lt hx hb dJ3_checkIndex_8e157_6 (tgt := 16) rfl (fun _ => ?_) (fun h => absurd (nI_lt hi (by omega)) h)
  refine lv_iload_n hx hb dJ3_checkIndex_8e157_16 rfl (lv_at hl 0 rfl) ?_
  exact W.iret hx hb hr (fun t ht hW => ⟨rfl, ht⟩) (fun q h => by cases h) dJ3_checkIndex_8e157_17 hlk
theorem j_pre (g : aG) (l : Launch) (Hx : Heap) {i n : Nat} {v : Value} (hi : i < n) (hn : n < 100) (hv : v = .null ∨ ∃ a, v = .ref a) : Met l yJ3_checkIndex_8e157 (jW yJ3_checkIndex_8e157 cJ3_checkIndex_8e157 3 (some .int)) { frames := 0, cells := 0, slots := 0, locals := 0 } (sPc g ([.int (Int32.ofNat i), .int (Int32.ofNat n), v]) Hx) (sQc (some (.int (Int32.ofNat i)))) 0 0 (aFr g) := by
  rcases hv with e | ⟨a, e⟩ <;> subst e
  · exact j_preN g l Hx hi hn
  · exact j_preR g l Hx hi hn
set_option maxRecDepth 20000 in
theorem j_chk (g : aG) (l : Launch) (Hx : Heap) {i n : Nat} (hi : i < n) (hn : n < 100) : Met l yJ0_checkIndex_df160 (jW yJ0_checkIndex_df160 cJ0_checkIndex_df160 2 (none)) { frames := 1, cells := 0, slots := 0, locals := 40 } (sPc g ([.int (Int32.ofNat i), .int (Int32.ofNat n)]) Hx) (sQc (none)) 0 0 (aFr g) := by
  refine Met.ofW (cc := cJ0_checkIndex_df160) (maxL := 2) (ret := none) (by decide) rfl ?_
  intro p e s m args below meth c s₁ B hml hv
  obtain ⟨rfl, hH, hq, hS⟩ := hv
  have hx := B.exec
  have hb := B.bytes
  have hr := B.returns
  have hts0 := atoms_spec (ws := jW yJ0_checkIndex_df160 cJ0_checkIndex_df160 2 (none)) B.pre
  have hts : ∀ w ∈ lw_g, w.before _ s = true := fun w hw => hts0 w (List.mem_cons_of_mem _ hw)
  have hown : s.vm.findClass RJ0 = some m.cls := findClass_of_methodNamed B.named
  have hlk := B.notSynchronized
  subst hH
  have hk : ∀ a : Nat, a < (gH g).size → ¬ aFr g a → s.heap[a]? = (gH g)[a]? := fun a ha _ => hq a ha
  have hSS : va_S (aFr g) s.heap s.heap [] := va_S.rf
  have hl := lv_entry ([.int (Int32.ofNat i), .int (Int32.ofNat n)]) (n := 2) (Nat.le_of_ble_eq_true rfl)
  rw [lg_entry_eq]
  generalize (lg_sl ([.int (Int32.ofNat i), .int (Int32.ofNat n)]) ++ List.replicate (2 - (lg_sl ([.int (Int32.ofNat i), .int (Int32.ofNat n)])).length) Slot.unset).toArray = ls at hl ⊢
  obtain ⟨v, hZ, hv⟩ := hS.2.2.2
  refine lv_iload_n hx hb dJ0_checkIndex_df160_0 rfl (lv_at hl 0 rfl) ?_
  refine lv_iload_n hx hb dJ0_checkIndex_df160_1 rfl (lv_at hl 1 rfl) ?_
  refine va_gets hx hb (hZ.kept hk) hSS hown (hts _ v_379) (fun _ h9 => h9) dJ0_checkIndex_df160_2 ?_
  have hrun := va_runS (R := (headSpec (jW yJ0_checkIndex_df160 cJ0_checkIndex_df160 2 (none)) { frames := 1, cells := 0, slots := 0, locals := 40 }).room) (Ts := lw_g) (own := RJ0) (index := 1059) (As := [.int (Int32.ofNat i), .int (Int32.ofNat n), v]) (rest := []) (g := F0 m 5 ls [v, .int (Int32.ofNat n), .int (Int32.ofNat i)]) (p := p) (e := e) (below := below) (meth := meth) (locs := []) (H := s.heap) (cells := 0) (slots := 0) ⟨hx, hb, hml, hown, hts⟩ (j_pre g l s.heap hi hn hv) ⟨⟨rfl, rfl, Nat.le_of_ble_eq_true rfl, Nat.le_of_ble_eq_true rfl, jW_warm hts v_383, List.mem_cons_self, hts _ v_383, hts _ v_111, by decide, fun sig h => by cases h; rfl, hts _ v_381⟩, hts _ v_382⟩ ⟨sPc_blind _ _ _, fun U hU hW => ⟨rfl, hU, hq, hS.warm hW⟩⟩ rfl rfl hl.1 rfl (Nat.le_of_ble_eq_true rfl) dJ0_checkIndex_df160_5 ⟨Nat.le_of_ble_eq_true rfl, Nat.le_of_ble_eq_true rfl⟩
  refine s_goes hrun (fun q h => by cases h) (fun locs1 hlo1 => ?_)
  refine lv_pop hx hb dJ0_checkIndex_df160_8 rfl ?_
  exact W.vret hx hb hr (fun t ht hW => ⟨rfl, ht⟩) hlo1 dJ0_checkIndex_df160_9 hlk
theorem lenJ_ok : ∀ i, i < 7 → lenJ.getD i 0 < 100 := by decide +kernel
theorem bytJ_ok : ∀ i, i < 7 → ∀ j, j < lenJ.getD i 0 → (((bytJ.getD i []).getD j 0 &&& 255).toUInt32 % 65536).toInt32 = Int32.ofInt ((w_tx (i + 1)).getD j 0) ∧ narrow .char (.int (Int32.ofInt ((w_tx (i + 1)).getD j 0))) = .int (Int32.ofInt ((w_tx (i + 1)).getD j 0)) ∧ i_rg ((w_tx (i + 1)).getD j 0) := by
  have key : ∀ i, i < 7 → ∀ j, j < lenJ.getD i 0 → (((bytJ.getD i []).getD j 0 &&& 255).toUInt32 % 65536).toInt32 = Int32.ofInt ((w_tx (i + 1)).getD j 0) ∧ narrow .char (.int (Int32.ofInt ((w_tx (i + 1)).getD j 0))) = .int (Int32.ofInt ((w_tx (i + 1)).getD j 0)) ∧ (-2147483648 ≤ (w_tx (i + 1)).getD j 0 ∧ (w_tx (i + 1)).getD j 0 ≤ 2147483647) := by decide +kernel
  exact key
theorem lenJ_tx : ∀ i, i < 7 → (w_tx (i + 1)).length = lenJ.getD i 0 := by decide +kernel
set_option maxRecDepth 20000 in
theorem j_lat (g : aG) (l : Launch) (Hx : Heap) {i j : Nat} (hi : i < 7) (hj : j < lenJ.getD i 0) : Met l yJ1_charAt_3b067 (jW yJ1_charAt_3b067 cJ1_charAt_3b067 2 (some .char)) { frames := 2, cells := 0, slots := 0, locals := 80 } (sPc g ([.ref (g.2.2.2.1 (i + 11)), .int (Int32.ofNat j)]) Hx) (sQc (some (.int (Int32.ofInt ((w_tx (i + 1)).getD j 0))))) 0 0 (aFr g) := by
  refine Met.ofW (cc := cJ1_charAt_3b067) (maxL := 2) (ret := some .char) (by decide) rfl ?_
  intro p e s m args below meth c s₁ B hml hv
  obtain ⟨rfl, hH, hq, hS⟩ := hv
  have hx := B.exec
  have hb := B.bytes
  have hr := B.returns
  have hts0 := atoms_spec (ws := jW yJ1_charAt_3b067 cJ1_charAt_3b067 2 (some .char)) B.pre
  have hts : ∀ w ∈ lw_g, w.before _ s = true := fun w hw => hts0 w (List.mem_cons_of_mem _ hw)
  have hown : s.vm.findClass RJ1 = some m.cls := findClass_of_methodNamed B.named
  have hlk := B.notSynchronized
  subst hH
  have hk : ∀ a : Nat, a < (gH g).size → ¬ aFr g a → s.heap[a]? = (gH g)[a]? := fun a ha _ => hq a ha
  have hSS : va_S (aFr g) s.heap s.heap [] := va_S.rf
  have hl := lv_entry ([.ref (g.2.2.2.1 (i + 11)), .int (Int32.ofNat j)]) (n := 2) (Nat.le_of_ble_eq_true rfl)
  rw [lg_entry_eq]
  generalize (lg_sl ([.ref (g.2.2.2.1 (i + 11)), .int (Int32.ofNat j)]) ++ List.replicate (2 - (lg_sl ([.ref (g.2.2.2.1 (i + 11)), .int (Int32.ofNat j)])).length) Slot.unset).toArray = ls at hl ⊢
  obtain ⟨a1, a2, a3, cell, t1, t2, t3, t4, t5, t6, t7⟩ := str_at hS hq hi
  obtain ⟨k1, k2, k3⟩ := bytJ_ok i hi j hj
  refine lv_iload_n hx hb dJ1_charAt_3b067_0 rfl (lv_at hl 1 rfl) ?_
  refine lv_aload_n hx hb dJ1_charAt_3b067_1 rfl (lv_at hl 0 rfl) ?_
  refine W.alen (n := Int32.ofNat (lenJ.getD i 0)) hx hb t1 t2 t5 rfl rfl dJ1_charAt_3b067_2 ?_
  have hrun := va_runS (R := (headSpec (jW yJ1_charAt_3b067 cJ1_charAt_3b067 2 (some .char)) { frames := 2, cells := 0, slots := 0, locals := 80 }).room) (Ts := lw_g) (own := RJ1) (index := 9) (As := [.int (Int32.ofNat j), .int (Int32.ofNat (lenJ.getD i 0))]) (rest := []) (g := F0 m 3 ls [.int (Int32.ofNat (lenJ.getD i 0)), .int (Int32.ofNat j)]) (p := p) (e := e) (below := below) (meth := meth) (locs := []) (H := s.heap) (cells := 0) (slots := 0) ⟨hx, hb, hml, hown, hts⟩ (j_chk g l s.heap hj (lenJ_ok i hi)) ⟨⟨rfl, rfl, Nat.le_of_ble_eq_true rfl, Nat.le_of_ble_eq_true rfl, jW_warm hts v_378, List.mem_cons_self, hts _ v_378, hts _ v_109, by decide, fun sig h => by cases h; rfl, hts _ v_376⟩, hts _ v_377⟩ ⟨sPc_blind _ _ _, fun U hU hW => ⟨rfl, hU, hq, hS.warm hW⟩⟩ rfl rfl hl.1 rfl (Nat.le_of_ble_eq_true rfl) dJ1_charAt_3b067_3 ⟨Nat.le_of_ble_eq_true rfl, Nat.le_of_ble_eq_true rfl⟩
  refine s_goes hrun (fun q h => by cases h) (fun locs1 hlo1 => ?_)
  refine lv_aload_n hx hb dJ1_charAt_3b067_6 rfl (lv_at hl 0 rfl) ?_
  refine lv_iload_n hx hb dJ1_charAt_3b067_7 rfl (lv_at hl 1 rfl) ?_
  have hl100 := lenJ_ok i hi
  have hclamp : (Int32.ofNat j).toNatClampNeg = j := nI_clamp (by omega)
  refine W.bald (v := .int ((bytJ.getD i []).getD j 0)) hx hb t1 t2 t3 (by rw [hclamp]; rintro (h | h); exact nI_pos (n := j) (by omega) h; omega) (by rw [hclamp]; exact t6 j hj) rfl rfl dJ1_charAt_3b067_8 ?_
  refine lv_sipush hx hb dJ1_charAt_3b067_9 (v := 255) rfl ?_
  refine lv_iand hx hb dJ1_charAt_3b067_12 ?_
  refine lv_i2c hx hb dJ1_charAt_3b067_13 k1 ?_
  exact W.zret (ty := .char) hx hb hr k2 (fun t ht hW => ⟨rfl, ht⟩) hlo1 dJ1_charAt_3b067_14 hlk
set_option maxRecDepth 20000 in
theorem j_chr (g : aG) (l : Launch) (Hx : Heap) {i j : Nat} (hi : i < 7) (hj : j < lenJ.getD i 0) : Met l yJ0_charAt_5068e (jW yJ0_charAt_5068e cJ0_charAt_5068e 2 (some .char)) { frames := 3, cells := 0, slots := 0, locals := 120 } (sPc g ([.ref (g.2.2.2.1 (i + 1)), .int (Int32.ofNat j)]) Hx) (sQc (some (.int (Int32.ofInt ((w_tx (i + 1)).getD j 0))))) 0 0 (aFr g) := by
  refine Met.ofW (cc := cJ0_charAt_5068e) (maxL := 2) (ret := some .char) (by decide) rfl ?_
  intro p e s m args below meth c s₁ B hml hv
  obtain ⟨rfl, hH, hq, hS⟩ := hv
  have hx := B.exec
  have hb := B.bytes
  have hr := B.returns
  have hts0 := atoms_spec (ws := jW yJ0_charAt_5068e cJ0_charAt_5068e 2 (some .char)) B.pre
  have hts : ∀ w ∈ lw_g, w.before _ s = true := fun w hw => hts0 w (List.mem_cons_of_mem _ hw)
  have hown : s.vm.findClass RJ0 = some m.cls := findClass_of_methodNamed B.named
  have hlk := B.notSynchronized
  subst hH
  have hk : ∀ a : Nat, a < (gH g).size → ¬ aFr g a → s.heap[a]? = (gH g)[a]? := fun a ha _ => hq a ha
  have hSS : va_S (aFr g) s.heap s.heap [] := va_S.rf
  have hl := lv_entry ([.ref (g.2.2.2.1 (i + 1)), .int (Int32.ofNat j)]) (n := 2) (Nat.le_of_ble_eq_true rfl)
  rw [lg_entry_eq]
  generalize (lg_sl ([.ref (g.2.2.2.1 (i + 1)), .int (Int32.ofNat j)]) ++ List.replicate (2 - (lg_sl ([.ref (g.2.2.2.1 (i + 1)), .int (Int32.ofNat j)])).length) Slot.unset).toArray = ls at hl ⊢
  obtain ⟨⟨cellB, b1, b2, b3, -⟩, a2, a3, a4⟩ := str_at hS hq hi
  obtain ⟨k1, k2, k3⟩ := bytJ_ok i hi j hj
  refine lv_aload_n hx hb dJ0_charAt_5068e_0 rfl (lv_at hl 0 rfl) ?_
  have hrun := va_runV (R := (headSpec (jW yJ0_charAt_5068e cJ0_charAt_5068e 2 (some .char)) { frames := 3, cells := 0, slots := 0, locals := 120 }).room) (Ts := lw_g) (own := RJ0) (C := "java/lang/String") (index := 492) (As := []) (b := g.2.2.2.1 (i + 1)) (rest := []) (g := F0 m 1 ls [.ref (g.2.2.2.1 (i + 1))]) (p := p) (e := e) (below := below) (meth := meth) (locs := []) (H := s.heap) (cells := 0) (slots := 0) ⟨hx, hb, hml, hown, hts⟩ (j_latin g l s.heap hi) ⟨⟨rfl, rfl, Nat.le_of_ble_eq_true rfl, Nat.le_of_ble_eq_true rfl, jW_warm hts v_372, List.mem_cons_self, hts _ v_372, hts _ v_109, by decide, fun sig h => by cases h; rfl, hts _ v_369⟩, hts _ v_370, hts _ v_371⟩ ⟨sPc_blind _ _ _, ⟨cellB, b1, b2, b3⟩, fun U hU hW => ⟨rfl, hU, hq, hS.warm hW⟩⟩ rfl rfl hl.1 rfl (Nat.le_of_ble_eq_true rfl) dJ0_charAt_5068e_1 ⟨Nat.le_of_ble_eq_true rfl, Nat.le_of_ble_eq_true rfl⟩
  refine s_goes hrun (fun q h => by cases h) (fun locs1 hlo1 => ?_)
  refine lv_if_eq hx hb dJ0_charAt_5068e_4 (tgt := 16) rfl (fun h => absurd h (by decide)) (fun _ => ?_)
  refine lv_aload_n hx hb dJ0_charAt_5068e_7 rfl (lv_at hl 0 rfl) ?_
  have hSS1 : va_S (aFr g) s.heap s.heap locs1 := ⟨Nat.le_refl _, fun _ _ _ => rfl, hlo1⟩
  refine vk_getf hx hb a3 hSS1 hown (hts _ v_1255) (fun _ h9 => h9) dJ0_charAt_5068e_8 ?_
  refine lv_iload_n hx hb dJ0_charAt_5068e_11 rfl (lv_at hl 1 rfl) ?_
  have hrun := va_runS (R := (headSpec (jW yJ0_charAt_5068e cJ0_charAt_5068e 2 (some .char)) { frames := 3, cells := 0, slots := 0, locals := 120 }).room) (Ts := lw_g) (own := RJ0) (index := 495) (As := [.ref (g.2.2.2.1 (i + 11)), .int (Int32.ofNat j)]) (rest := []) (g := F0 m 12 ls [.int (Int32.ofNat j), .ref (g.2.2.2.1 (i + 11))]) (p := p) (e := e) (below := below) (meth := meth) (locs := locs1) (H := s.heap) (cells := 0) (slots := 0) ⟨hx, hb, hml, hown, hts⟩ (j_lat g l s.heap hi hj) ⟨⟨rfl, rfl, Nat.le_of_ble_eq_true rfl, Nat.le_of_ble_eq_true rfl, jW_warm hts v_375, List.mem_cons_self, hts _ v_375, hts _ v_110, by decide, fun sig h => by cases h; rfl, hts _ v_373⟩, hts _ v_374⟩ ⟨sPc_blind _ _ _, fun U hU hW => ⟨rfl, hU, hq, hS.warm hW⟩⟩ rfl rfl hl.1 rfl (Nat.le_of_ble_eq_true rfl) dJ0_charAt_5068e_12 ⟨Nat.le_of_ble_eq_true rfl, Nat.le_of_ble_eq_true rfl⟩
  refine s_goes hrun hlo1 (fun locs2 hlo2 => ?_)
  exact W.zret (ty := .char) hx hb hr k2 (fun t ht hW => ⟨rfl, ht⟩) hlo2 dJ0_charAt_5068e_15 hlk
theorem st_ldcS_1 {bytes : ByteArray} {ret : Option FieldType} {nm : String} {nL lv pc n : Nat} (hd : decode bytes pc = .ok (.ldc 79, 2)) (hn : pc + 2 = n) : SOK RX1 bytes ret nm nL lv pc (x_push (vR 1) n) := by
  intro g p l e R s m args below meth c call Q n0 hC hO P' hP L st u cc ss hq H ls locs cells slots hRp hl hoL hoS hlo h1 h2 h0
  obtain ⟨hx, hb, hr, hml, hown, hts, hlk, hnm, hK, hfr, hlw⟩ := hC
  subst hn
  have h8 := hRp.1.1
  exact va_ldcS (tx := "house") hx hb hown (hK.2.2.2.2.1 1 (by decide) (by decide)) hd (hP _ _ _ _ _ _ hq H ls locs cells slots hRp hl hoL (aok_cons.mpr ⟨fun b hb2 => by cases hb2; omega, hoS⟩) hlo h1 h2 h0)
theorem st_ldcS_2 {bytes : ByteArray} {ret : Option FieldType} {nm : String} {nL lv pc n : Nat} (hd : decode bytes pc = .ok (.ldc 85, 2)) (hn : pc + 2 = n) : SOK RX1 bytes ret nm nL lv pc (x_push (vR 2) n) := by
  intro g p l e R s m args below meth c call Q n0 hC hO P' hP L st u cc ss hq H ls locs cells slots hRp hl hoL hoS hlo h1 h2 h0
  obtain ⟨hx, hb, hr, hml, hown, hts, hlk, hnm, hK, hfr, hlw⟩ := hC
  subst hn
  have h8 := hRp.1.1
  exact va_ldcS (tx := "tone") hx hb hown (hK.2.2.2.2.1 2 (by decide) (by decide)) hd (hP _ _ _ _ _ _ hq H ls locs cells slots hRp hl hoL (aok_cons.mpr ⟨fun b hb2 => by cases hb2; omega, hoS⟩) hlo h1 h2 h0)
theorem st_ldcS_3 {bytes : ByteArray} {ret : Option FieldType} {nm : String} {nL lv pc n : Nat} (hd : decode bytes pc = .ok (.ldc 87, 2)) (hn : pc + 2 = n) : SOK RX1 bytes ret nm nL lv pc (x_push (vR 3) n) := by
  intro g p l e R s m args below meth c call Q n0 hC hO P' hP L st u cc ss hq H ls locs cells slots hRp hl hoL hoS hlo h1 h2 h0
  obtain ⟨hx, hb, hr, hml, hown, hts, hlk, hnm, hK, hfr, hlw⟩ := hC
  subst hn
  have h8 := hRp.1.1
  exact va_ldcS (tx := "put") hx hb hown (hK.2.2.2.2.1 3 (by decide) (by decide)) hd (hP _ _ _ _ _ _ hq H ls locs cells slots hRp hl hoL (aok_cons.mpr ⟨fun b hb2 => by cases hb2; omega, hoS⟩) hlo h1 h2 h0)
theorem st_ldcS_4 {bytes : ByteArray} {ret : Option FieldType} {nm : String} {nL lv pc n : Nat} (hd : decode bytes pc = .ok (.ldc 89, 2)) (hn : pc + 2 = n) : SOK RX1 bytes ret nm nL lv pc (x_push (vR 4) n) := by
  intro g p l e R s m args below meth c call Q n0 hC hO P' hP L st u cc ss hq H ls locs cells slots hRp hl hoL hoS hlo h1 h2 h0
  obtain ⟨hx, hb, hr, hml, hown, hts, hlk, hnm, hK, hfr, hlw⟩ := hC
  subst hn
  have h8 := hRp.1.1
  exact va_ldcS (tx := "fade") hx hb hown (hK.2.2.2.2.1 4 (by decide) (by decide)) hd (hP _ _ _ _ _ _ hq H ls locs cells slots hRp hl hoL (aok_cons.mpr ⟨fun b hb2 => by cases hb2; omega, hoS⟩) hlo h1 h2 h0)
theorem st_ldcS_5 {bytes : ByteArray} {ret : Option FieldType} {nm : String} {nL lv pc n : Nat} (hd : decode bytes pc = .ok (.ldc 91, 2)) (hn : pc + 2 = n) : SOK RX1 bytes ret nm nL lv pc (x_push (vR 5) n) := by
  intro g p l e R s m args below meth c call Q n0 hC hO P' hP L st u cc ss hq H ls locs cells slots hRp hl hoL hoS hlo h1 h2 h0
  obtain ⟨hx, hb, hr, hml, hown, hts, hlk, hnm, hK, hfr, hlw⟩ := hC
  subst hn
  have h8 := hRp.1.1
  exact va_ldcS (tx := "gain") hx hb hown (hK.2.2.2.2.1 5 (by decide) (by decide)) hd (hP _ _ _ _ _ _ hq H ls locs cells slots hRp hl hoL (aok_cons.mpr ⟨fun b hb2 => by cases hb2; omega, hoS⟩) hlo h1 h2 h0)
theorem st_ldcS_6 {bytes : ByteArray} {ret : Option FieldType} {nm : String} {nL lv pc n : Nat} (hd : decode bytes pc = .ok (.ldc 93, 2)) (hn : pc + 2 = n) : SOK RX1 bytes ret nm nL lv pc (x_push (vR 6) n) := by
  intro g p l e R s m args below meth c call Q n0 hC hO P' hP L st u cc ss hq H ls locs cells slots hRp hl hoL hoS hlo h1 h2 h0
  obtain ⟨hx, hb, hr, hml, hown, hts, hlk, hnm, hK, hfr, hlw⟩ := hC
  subst hn
  have h8 := hRp.1.1
  exact va_ldcS (tx := "shift") hx hb hown (hK.2.2.2.2.1 6 (by decide) (by decide)) hd (hP _ _ _ _ _ _ hq H ls locs cells slots hRp hl hoL (aok_cons.mpr ⟨fun b hb2 => by cases hb2; omega, hoS⟩) hlo h1 h2 h0)
theorem st_ldcS_7 {bytes : ByteArray} {ret : Option FieldType} {nm : String} {nL lv pc n : Nat} (hd : decode bytes pc = .ok (.ldc 95, 2)) (hn : pc + 2 = n) : SOK RX1 bytes ret nm nL lv pc (x_push (vR 7) n) := by
  intro g p l e R s m args below meth c call Q n0 hC hO P' hP L st u cc ss hq H ls locs cells slots hRp hl hoL hoS hlo h1 h2 h0
  obtain ⟨hx, hb, hr, hml, hown, hts, hlk, hnm, hK, hfr, hlw⟩ := hC
  subst hn
  have h8 := hRp.1.1
  exact va_ldcS (tx := "shut") hx hb hown (hK.2.2.2.2.1 7 (by decide) (by decide)) hd (hP _ _ _ _ _ _ hq H ls locs cells slots hRp hl hoL (aok_cons.mpr ⟨fun b hb2 => by cases hb2; omega, hoS⟩) hlo h1 h2 h0)
theorem st_tlen {bytes : ByteArray} {ret : Option FieldType} {nm : String} {nL pc n : Nat} (hd : decode bytes pc = .ok (.invokevirtual 69, 3)) (hn : pc + 3 = n) : SOK RX1 bytes ret nm nL 5 pc (x_tlen n) := by
  intro g p l e R s m args below meth c call Q n0 hC hO P' hP L st u cc ss hq H ls locs cells slots hRp hl hoL hoS hlo h1 h2 h0
  obtain ⟨hx, hb, hr, hml, hown, hts, hlk, hnm, hK, hfr, hlw⟩ := hC
  subst hn
  unfold x_tlen at hq
  split at hq
  · rename_i a st'
    obtain ⟨oa, oS⟩ := aok_cons.mp hoS
    obtain ⟨⟨ha1, ha7⟩, hq⟩ := hq
    obtain ⟨hlen, hq⟩ := z_leno hq
    have hcs := cat_sum g st'
    obtain ⟨i, hi⟩ : ∃ i, a = i + 1 := ⟨a - 1, by omega⟩
    subst hi
    have hi7 : i < 7 := by omega
    obtain ⟨⟨cellB, b1, b2, b3, -⟩, -, -, -⟩ := str_at (Hx := H) hK.2.2.2.2 hRp.2.2.1 hi7
    have hrho : rho g (i + 1) = g.2.2.2.1 (i + 1) := by unfold rho; rw [if_pos (by omega)]
    have hst : ((.inr (.inl (some (i + 1))) :: st' : List aV).map (av g)) = .ref (g.2.2.2.1 (i + 1)) :: st'.map (av g) := by rw [← hrho]; rfl
    rw [hst]
    have hrun := va_runV (Ts := lw_g) (own := RX1) (C := "java/lang/String") (index := 69) (As := []) (b := g.2.2.2.1 (i + 1)) (rest := st'.map (av g)) (g := F0 m pc ls (.ref (g.2.2.2.1 (i + 1)) :: st'.map (av g))) (p := p) (e := e) (below := below) (meth := meth) (locs := locs) (H := H) (cells := cells) (slots := slots) ⟨hx, hb, hml, hown, hts⟩ (j_len g l H hi7) ⟨⟨rfl, rfl, by show 1 + 1 ≤ R.frames; omega, by show 8 + (1 + 11) + 40 ≤ R.locals; omega, jW_warm hts v_353, List.mem_cons_self, hts _ v_353, hts _ v_109, by decide, fun sig h => by cases h; rfl, hts _ v_350⟩, hts _ v_351, hts _ v_352⟩ ⟨sPc_blind _ _ _, ⟨cellB, b1, b2, b3⟩, fun U hU hW => ⟨rfl, hU, hRp.2.2.1, hK.2.2.2.2.warm hW⟩⟩ rfl rfl hl.2.1 rfl (by show 2 * 0 + _ ≤ 8; omega) hd ⟨by omega, by omega⟩
    refine s_goes hrun hlo (fun locs1 hlo1 => ?_)
    have hrg : i_rg ((w_tx (i + 1)).length : Int) := by have := lenJ_ok i hi7; rw [lenJ_tx i hi7]; exact ⟨by omega, by omega⟩
    have hk := hP _ _ _ _ _ _ hq H ls locs1 cells slots hRp hl hoL (aok_cons.mpr ⟨hrg, oS⟩) hlo1 h1 h2 h0
    rw [lenJ_tx i hi7] at hk
    exact hk
  · exact hq.elim
theorem st_tchr {bytes : ByteArray} {ret : Option FieldType} {nm : String} {nL pc n : Nat} (hd : decode bytes pc = .ok (.invokevirtual 75, 3)) (hn : pc + 3 = n) : SOK RX1 bytes ret nm nL 5 pc (x_tchr n) := by
  intro g p l e R s m args below meth c call Q n0 hC hO P' hP L st u cc ss hq H ls locs cells slots hRp hl hoL hoS hlo h1 h2 h0
  obtain ⟨hx, hb, hr, hml, hown, hts, hlk, hnm, hK, hfr, hlw⟩ := hC
  subst hn
  unfold x_tchr at hq
  split at hq
  · rename_i j a st'
    obtain ⟨oj, oS1⟩ := aok_cons.mp hoS
    obtain ⟨oa, oS⟩ := aok_cons.mp oS1
    clear oS1
    obtain ⟨⟨ha1, ha7, hj0, hj1⟩, hq⟩ := hq
    obtain ⟨hlen, hq⟩ := z_leno hq
    have hcs := cat_sum g st'
    obtain ⟨i, hi⟩ : ∃ i, a = i + 1 := ⟨a - 1, by omega⟩
    subst hi
    have hi7 : i < 7 := by omega
    rw [lenJ_tx i hi7] at hj1
    have hjl : j.toNat < lenJ.getD i 0 := by omega
    obtain ⟨⟨cellB, b1, b2, b3, -⟩, -, -, -⟩ := str_at (Hx := H) hK.2.2.2.2 hRp.2.2.1 hi7
    have hrho : rho g (i + 1) = g.2.2.2.1 (i + 1) := by unfold rho; rw [if_pos (by omega)]
    have hje : Int32.ofInt j = Int32.ofNat j.toNat := by
      conv => lhs; rw [show j = (j.toNat : Int) from (Int.toNat_of_nonneg hj0).symm]
      rfl
    have hst : ((.inl j :: .inr (.inl (some (i + 1))) :: st' : List aV).map (av g)) = .int (Int32.ofNat j.toNat) :: .ref (g.2.2.2.1 (i + 1)) :: st'.map (av g) := by rw [← hrho, ← hje]; rfl
    rw [hst]
    have hrun := va_runV (Ts := lw_g) (own := RX1) (C := "java/lang/String") (index := 75) (As := [.int (Int32.ofNat j.toNat)]) (b := g.2.2.2.1 (i + 1)) (rest := st'.map (av g)) (g := F0 m pc ls (.int (Int32.ofNat j.toNat) :: .ref (g.2.2.2.1 (i + 1)) :: st'.map (av g))) (p := p) (e := e) (below := below) (meth := meth) (locs := locs) (H := H) (cells := cells) (slots := slots) ⟨hx, hb, hml, hown, hts⟩ (j_chr g l H hi7 hjl) ⟨⟨rfl, rfl, by show 3 + 1 ≤ R.frames; omega, by show 8 + (2 + 11) + 120 ≤ R.locals; omega, jW_warm hts v_368, List.mem_cons_self, hts _ v_368, hts _ v_109, by decide, fun sig h => by cases h; rfl, hts _ v_365⟩, hts _ v_366, hts _ v_367⟩ ⟨sPc_blind _ _ _, ⟨cellB, b1, b2, b3⟩, fun U hU hW => ⟨rfl, hU, hRp.2.2.1, hK.2.2.2.2.warm hW⟩⟩ rfl rfl hl.2.1 rfl (by show 2 * 0 + _ ≤ 8; omega) hd ⟨by omega, by omega⟩
    refine s_goes hrun hlo (fun locs1 hlo1 => ?_)
    exact hP _ _ _ _ _ _ hq H ls locs1 cells slots hRp hl hoL (aok_cons.mpr ⟨(bytJ_ok i hi7 _ hjl).2.2, oS⟩) hlo1 h1 h2 h0
  · exact hq.elim
