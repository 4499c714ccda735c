/-! the laws of am's instructions against the machine's: printed by wip/whole/ops.py -/
theorem alok.get {g : aG} {nL : Nat} {L : List aV} {ls : Array Slot} {i : Nat} {v : aV} (h : alok g nL L ls) (hv : lg L i = v) (hne : ¬ v = vU) : ls[i]? = some (.val (av g v)) := by
  have := h.2.2.2 i (by rw [hv]; exact hne)
  rw [hv] at this
  exact this
theorem aok.get {n : Nat} {L : List aV} {i : Nat} {v : aV} (h : aok n L) (hv : lg L i = v) (hne : ¬ v = vU) : vok n v := by
  have := h _ (lg_mem L i (by rw [hv]; exact hne))
  rw [hv] at this
  exact this
theorem z_leno {l : List aV} {X : Prop} (h : z_len l X) : l.length ≤ 4 ∧ X := by
  unfold z_len at h
  cases hb : Nat.ble l.length 4 with
  | true => rw [hb] at h; exact ⟨Nat.le_of_ble_eq_true hb, h⟩
  | false => rw [hb] at h; exact h.elim
theorem cat_sum (g : aG) : ∀ (l : List aV), ((l.map (av g)).map fun v => v.category).sum ≤ 2 * l.length
  | [] => Nat.le_refl _
  | v :: l => by
    have ih := cat_sum g l
    have h1 : (av g v).category ≤ 2 := by rw [av_cat]; split <;> omega
    simp only [List.map_cons, List.sum_cons, List.length_cons]
    omega
theorem st_iconst {own : String} {bytes : ByteArray} {ret : Option FieldType} {nm : String} {nL lv pc n : Nat} (x : Int) (hd : decode bytes pc = .ok (.iconst x, 1)) (hn : pc + 1 = n) (hv : i_rg x) : SOK own bytes ret nm nL lv pc (x_push (vI x) n) := by
  intro g p l e R s m args below meth c call Q n0 hC hO P' hP L st u cc ss hq H ls locs cells slots hRp hl hoL hoS hlo h1 h2 h0
  obtain ⟨hx, hb, hr, hml, hown, hts, hlk, hnm, hK, hfr, hlw⟩ := hC
  subst hn
  exact lv_iconst hx hb hd rfl (hP _ _ _ _ _ _ hq H ls locs cells slots hRp hl hoL (aok_cons.mpr ⟨hv, hoS⟩) hlo h1 h2 h0)
theorem st_bipush {own : String} {bytes : ByteArray} {ret : Option FieldType} {nm : String} {nL lv pc n : Nat} (x : Int) (hd : decode bytes pc = .ok (.bipush x, 2)) (hn : pc + 2 = n) (hv : i_rg x) (he : (Int8.ofInt x).toInt32 = Int32.ofInt x) : SOK own bytes ret nm nL lv pc (x_push (vI x) n) := by
  intro g p l e R s m args below meth c call Q n0 hC hO P' hP L st u cc ss hq H ls locs cells slots hRp hl hoL hoS hlo h1 h2 h0
  obtain ⟨hx, hb, hr, hml, hown, hts, hlk, hnm, hK, hfr, hlw⟩ := hC
  subst hn
  exact lv_bipush hx hb hd he (hP _ _ _ _ _ _ hq H ls locs cells slots hRp hl hoL (aok_cons.mpr ⟨hv, hoS⟩) hlo h1 h2 h0)
theorem st_sipush {own : String} {bytes : ByteArray} {ret : Option FieldType} {nm : String} {nL lv pc n : Nat} (x : Int) (hd : decode bytes pc = .ok (.sipush x, 3)) (hn : pc + 3 = n) (hv : i_rg x) (he : (Int16.ofInt x).toInt32 = Int32.ofInt x) : SOK own bytes ret nm nL lv pc (x_push (vI x) n) := by
  intro g p l e R s m args below meth c call Q n0 hC hO P' hP L st u cc ss hq H ls locs cells slots hRp hl hoL hoS hlo h1 h2 h0
  obtain ⟨hx, hb, hr, hml, hown, hts, hlk, hnm, hK, hfr, hlw⟩ := hC
  subst hn
  exact lv_sipush hx hb hd he (hP _ _ _ _ _ _ hq H ls locs cells slots hRp hl hoL (aok_cons.mpr ⟨hv, hoS⟩) hlo h1 h2 h0)
theorem st_ldc {own : String} {bytes : ByteArray} {ret : Option FieldType} {nm : String} {nL lv pc n : Nat} (x : Int) {idx : Nat} {v : Int32} (hd : decode bytes pc = .ok (.ldc idx, 2)) (hn : pc + 2 = n) (hw : Cond.constant own idx v ∈ lw_g) (hv : i_rg x) (he : Int32.ofInt x = v) : SOK own bytes ret nm nL lv pc (x_push (vI x) n) := by
  intro g p l e R s m args below meth c call Q n0 hC hO P' hP L st u cc ss hq H ls locs cells slots hRp hl hoL hoS hlo h1 h2 h0
  obtain ⟨hx, hb, hr, hml, hown, hts, hlk, hnm, hK, hfr, hlw⟩ := hC
  subst hn
  subst he
  exact lv_ldc hx hb hown (hts _ hw) hd (hP _ _ _ _ _ _ hq H ls locs cells slots hRp hl hoL (aok_cons.mpr ⟨hv, hoS⟩) hlo h1 h2 h0)
theorem st_ldcw {own : String} {bytes : ByteArray} {ret : Option FieldType} {nm : String} {nL lv pc n : Nat} (x : Int) {idx : Nat} {v : Int32} (hd : decode bytes pc = .ok (.ldc_w idx, 3)) (hn : pc + 3 = n) (hw : Cond.constant own idx v ∈ lw_g) (hv : i_rg x) (he : Int32.ofInt x = v) : SOK own bytes ret nm nL lv pc (x_push (vI x) n) := by
  intro g p l e R s m args below meth c call Q n0 hC hO P' hP L st u cc ss hq H ls locs cells slots hRp hl hoL hoS hlo h1 h2 h0
  obtain ⟨hx, hb, hr, hml, hown, hts, hlk, hnm, hK, hfr, hlw⟩ := hC
  subst hn
  subst he
  exact lv_ldcw hx hb hown (hts _ hw) hd (hP _ _ _ _ _ _ hq H ls locs cells slots hRp hl hoL (aok_cons.mpr ⟨hv, hoS⟩) hlo h1 h2 h0)
theorem st_ldcf {own : String} {bytes : ByteArray} {ret : Option FieldType} {nm : String} {nL lv pc n : Nat} {f : UInt32} {idx : Nat} (hd : decode bytes pc = .ok (.ldc idx, 2)) (hn : pc + 2 = n) (hw : Cond.constantFloat own idx f ∈ lw_g) : SOK own bytes ret nm nL lv pc (x_push (vF f) n) := by
  intro g p l e R s m args below meth c call Q n0 hC hO P' hP L st u cc ss hq H ls locs cells slots hRp hl hoL hoS hlo h1 h2 h0
  obtain ⟨hx, hb, hr, hml, hown, hts, hlk, hnm, hK, hfr, hlw⟩ := hC
  subst hn
  exact lv_ldcf hx hb hown (hts _ hw) hd (hP _ _ _ _ _ _ hq H ls locs cells slots hRp hl hoL (aok_cons.mpr ⟨trivial, hoS⟩) hlo h1 h2 h0)
theorem lv_ldcwf {p : Program} {l : Launch} {e : Env} {R : Room} {s : State} {m : MethodId} {args : Array Value} {below : List Frame} {meth : Method} {c : Code} {H : Heap} {locs : List Loc} {cells slots : Nat} {Q : State → Prop} {cc : ByteArray} {pc : Nat} {ls : Array Slot} {rest : List Value} (hexec : p.tables.exec = Jvm.exec) (hb : c.code = cc) {own : String} {index : Nat} {v : UInt32} (hown : s.vm.findClass own = some m.cls) (hconst : (Jvm.Cond.constantFloat own index v).before args s = true) (hdg : decode cc pc = .ok (.ldc_w index, 3)) (k : W p l e R s m args below meth c H locs cells slots Q (F0 m (pc + 3) ls (.float v :: rest))) : W p l e R s m args below meth c H locs cells slots Q (F0 m pc ls rest) := by
  intro T hT X
  obtain ⟨t, a, b⟩ := k T hT X
  obtain ⟨kk, cf, hk, hcf, hcp⟩ := Cond.constantFloat_spec hown hconst
  obtain ⟨k', hk', he⟩ := X.warmed.alike.2.2 _ _ hk
  have hd2 : decode c.code pc = .ok (.ldc_w index, 3) := by rw [hb]; exact hdg
  refine ⟨t, ?_, b⟩
  jvm_step X.here [hexec, hd2, ldc_w.wp_float (s := T) (f := F0 m pc ls rest) X.here.top hk' (by rw [he]; exact hcf) hcp]
  exact a
theorem st_ldcwf {own : String} {bytes : ByteArray} {ret : Option FieldType} {nm : String} {nL lv pc n : Nat} {f : UInt32} {idx : Nat} (hd : decode bytes pc = .ok (.ldc_w idx, 3)) (hn : pc + 3 = n) (hw : Cond.constantFloat own idx f ∈ lw_g) : SOK own bytes ret nm nL lv pc (x_push (vF f) n) := by
  intro g p l e R s m args below meth c call Q n0 hC hO P' hP L st u cc ss hq H ls locs cells slots hRp hl hoL hoS hlo h1 h2 h0
  obtain ⟨hx, hb, hr, hml, hown, hts, hlk, hnm, hK, hfr, hlw⟩ := hC
  subst hn
  exact lv_ldcwf hx hb hown (hts _ hw) hd (hP _ _ _ _ _ _ hq H ls locs cells slots hRp hl hoL (aok_cons.mpr ⟨trivial, hoS⟩) hlo h1 h2 h0)
theorem st_ldc2 {own : String} {bytes : ByteArray} {ret : Option FieldType} {nm : String} {nL lv pc n : Nat} (x : Int) {idx : Nat} {v : Int64} (hd : decode bytes pc = .ok (.ldc2_w idx, 3)) (hn : pc + 3 = n) (hw : Cond.constantLong own idx v ∈ lw_g) (hv : l_rg x) (he : Int64.ofInt x = v) : SOK own bytes ret nm nL lv pc (x_push (vL x) n) := by
  intro g p l e R s m args below meth c call Q n0 hC hO P' hP L st u cc ss hq H ls locs cells slots hRp hl hoL hoS hlo h1 h2 h0
  obtain ⟨hx, hb, hr, hml, hown, hts, hlk, hnm, hK, hfr, hlw⟩ := hC
  subst hn
  subst he
  exact lv_ldc2 hx hb hown (hts _ hw) hd (hP _ _ _ _ _ _ hq H ls locs cells slots hRp hl hoL (aok_cons.mpr ⟨hv, hoS⟩) hlo h1 h2 h0)
theorem st_ldc2d {own : String} {bytes : ByteArray} {ret : Option FieldType} {nm : String} {nL lv pc n : Nat} {f : UInt64} {idx : Nat} (hd : decode bytes pc = .ok (.ldc2_w idx, 3)) (hn : pc + 3 = n) (hw : Cond.constantDouble own idx f ∈ lw_g) : SOK own bytes ret nm nL lv pc (x_push (vD f) n) := by
  intro g p l e R s m args below meth c call Q n0 hC hO P' hP L st u cc ss hq H ls locs cells slots hRp hl hoL hoS hlo h1 h2 h0
  obtain ⟨hx, hb, hr, hml, hown, hts, hlk, hnm, hK, hfr, hlw⟩ := hC
  subst hn
  exact lv_ldc2d hx hb hown (hts _ hw) hd (hP _ _ _ _ _ _ hq H ls locs cells slots hRp hl hoL (aok_cons.mpr ⟨trivial, hoS⟩) hlo h1 h2 h0)
theorem st_lconst {own : String} {bytes : ByteArray} {ret : Option FieldType} {nm : String} {nL lv pc n : Nat} (x : Int) {k : Fin 2} (hd : decode bytes pc = .ok (.lconst k, 1)) (hn : pc + 1 = n) (hv : l_rg x) (he : Int64.ofNat (k : Nat) = Int64.ofInt x) : SOK own bytes ret nm nL lv pc (x_push (vL x) n) := by
  intro g p l e R s m args below meth c call Q n0 hC hO P' hP L st u cc ss hq H ls locs cells slots hRp hl hoL hoS hlo h1 h2 h0
  obtain ⟨hx, hb, hr, hml, hown, hts, hlk, hnm, hK, hfr, hlw⟩ := hC
  subst hn
  exact lv_lconst hx hb hd he (hP _ _ _ _ _ _ hq H ls locs cells slots hRp hl hoL (aok_cons.mpr ⟨hv, hoS⟩) hlo h1 h2 h0)
theorem st_fconst0 {own : String} {bytes : ByteArray} {ret : Option FieldType} {nm : String} {nL lv pc n : Nat} (hd : decode bytes pc = .ok (.fconst 0, 1)) (hn : pc + 1 = n) : SOK own bytes ret nm nL lv pc (x_push (vF 0) n) := by
  intro g p l e R s m args below meth c call Q n0 hC hO P' hP L st u cc ss hq H ls locs cells slots hRp hl hoL hoS hlo h1 h2 h0
  obtain ⟨hx, hb, hr, hml, hown, hts, hlk, hnm, hK, hfr, hlw⟩ := hC
  subst hn
  exact lv_fconst0 hx hb hd (hP _ _ _ _ _ _ hq H ls locs cells slots hRp hl hoL (aok_cons.mpr ⟨trivial, hoS⟩) hlo h1 h2 h0)
theorem st_dconst0 {own : String} {bytes : ByteArray} {ret : Option FieldType} {nm : String} {nL lv pc n : Nat} (hd : decode bytes pc = .ok (.dconst 0, 1)) (hn : pc + 1 = n) : SOK own bytes ret nm nL lv pc (x_push (vD 0) n) := by
  intro g p l e R s m args below meth c call Q n0 hC hO P' hP L st u cc ss hq H ls locs cells slots hRp hl hoL hoS hlo h1 h2 h0
  obtain ⟨hx, hb, hr, hml, hown, hts, hlk, hnm, hK, hfr, hlw⟩ := hC
  subst hn
  exact lv_dconst0 hx hb hd (hP _ _ _ _ _ _ hq H ls locs cells slots hRp hl hoL (aok_cons.mpr ⟨trivial, hoS⟩) hlo h1 h2 h0)
theorem st_dconst1 {own : String} {bytes : ByteArray} {ret : Option FieldType} {nm : String} {nL lv pc n : Nat} (hd : decode bytes pc = .ok (.dconst 1, 1)) (hn : pc + 1 = n) : SOK own bytes ret nm nL lv pc (x_push (vD 4607182418800017408) n) := by
  intro g p l e R s m args below meth c call Q n0 hC hO P' hP L st u cc ss hq H ls locs cells slots hRp hl hoL hoS hlo h1 h2 h0
  obtain ⟨hx, hb, hr, hml, hown, hts, hlk, hnm, hK, hfr, hlw⟩ := hC
  subst hn
  exact lv_dconst1 hx hb hd (hP _ _ _ _ _ _ hq H ls locs cells slots hRp hl hoL (aok_cons.mpr ⟨trivial, hoS⟩) hlo h1 h2 h0)
theorem st_iload_n {own : String} {bytes : ByteArray} {ret : Option FieldType} {nm : String} {nL lv pc n : Nat} {k : Fin 4} {i : Nat} (hd : decode bytes pc = .ok (.iload_n k, 1)) (hi : (k : Nat) = i) (hn : pc + 1 = n) : SOK own bytes ret nm nL lv pc (x_iload i n) := by
  intro g p l e R s m args below meth c call Q n0 hC hO P' hP L st u cc ss hq H ls locs cells slots hRp hl hoL hoS hlo h1 h2 h0
  obtain ⟨hx, hb, hr, hml, hown, hts, hlk, hnm, hK, hfr, hlw⟩ := hC
  subst hn
  unfold x_iload at hq
  split at hq
  · rename_i x hv
    have hne : ¬ (.inl x : aV) = vU := fun h => by cases h
    exact lv_iload_n hx hb hd hi (hl.get hv hne) (hP _ _ _ _ _ _ hq H ls locs cells slots hRp hl hoL (aok_cons.mpr ⟨hoL.get hv hne, hoS⟩) hlo h1 h2 h0)
  · exact hq.elim
theorem st_iload {own : String} {bytes : ByteArray} {ret : Option FieldType} {nm : String} {nL lv pc n : Nat} {i : Nat} (hd : decode bytes pc = .ok (.iload i, 2)) (hn : pc + 2 = n) : SOK own bytes ret nm nL lv pc (x_iload i n) := by
  intro g p l e R s m args below meth c call Q n0 hC hO P' hP L st u cc ss hq H ls locs cells slots hRp hl hoL hoS hlo h1 h2 h0
  obtain ⟨hx, hb, hr, hml, hown, hts, hlk, hnm, hK, hfr, hlw⟩ := hC
  subst hn
  unfold x_iload at hq
  split at hq
  · rename_i x hv
    have hne : ¬ (.inl x : aV) = vU := fun h => by cases h
    exact lv_iload hx hb hd (hl.get hv hne) (hP _ _ _ _ _ _ hq H ls locs cells slots hRp hl hoL (aok_cons.mpr ⟨hoL.get hv hne, hoS⟩) hlo h1 h2 h0)
  · exact hq.elim
theorem st_fload_n {own : String} {bytes : ByteArray} {ret : Option FieldType} {nm : String} {nL lv pc n : Nat} {k : Fin 4} {i : Nat} (hd : decode bytes pc = .ok (.fload_n k, 1)) (hi : (k : Nat) = i) (hn : pc + 1 = n) : SOK own bytes ret nm nL lv pc (x_fload i n) := by
  intro g p l e R s m args below meth c call Q n0 hC hO P' hP L st u cc ss hq H ls locs cells slots hRp hl hoL hoS hlo h1 h2 h0
  obtain ⟨hx, hb, hr, hml, hown, hts, hlk, hnm, hK, hfr, hlw⟩ := hC
  subst hn
  unfold x_fload at hq
  split at hq
  · rename_i x hv
    have hne : ¬ (vF x : aV) = vU := fun h => by cases h
    exact lv_fload_n hx hb hd hi (hl.get hv hne) (hP _ _ _ _ _ _ hq H ls locs cells slots hRp hl hoL (aok_cons.mpr ⟨hoL.get hv hne, hoS⟩) hlo h1 h2 h0)
  · exact hq.elim
theorem st_fload {own : String} {bytes : ByteArray} {ret : Option FieldType} {nm : String} {nL lv pc n : Nat} {i : Nat} (hd : decode bytes pc = .ok (.fload i, 2)) (hn : pc + 2 = n) : SOK own bytes ret nm nL lv pc (x_fload i n) := by
  intro g p l e R s m args below meth c call Q n0 hC hO P' hP L st u cc ss hq H ls locs cells slots hRp hl hoL hoS hlo h1 h2 h0
  obtain ⟨hx, hb, hr, hml, hown, hts, hlk, hnm, hK, hfr, hlw⟩ := hC
  subst hn
  unfold x_fload at hq
  split at hq
  · rename_i x hv
    have hne : ¬ (vF x : aV) = vU := fun h => by cases h
    exact lv_fload hx hb hd (hl.get hv hne) (hP _ _ _ _ _ _ hq H ls locs cells slots hRp hl hoL (aok_cons.mpr ⟨hoL.get hv hne, hoS⟩) hlo h1 h2 h0)
  · exact hq.elim
theorem st_lload_n {own : String} {bytes : ByteArray} {ret : Option FieldType} {nm : String} {nL lv pc n : Nat} {k : Fin 4} {i : Nat} (hd : decode bytes pc = .ok (.lload_n k, 1)) (hi : (k : Nat) = i) (hn : pc + 1 = n) : SOK own bytes ret nm nL lv pc (x_lload i n) := by
  intro g p l e R s m args below meth c call Q n0 hC hO P' hP L st u cc ss hq H ls locs cells slots hRp hl hoL hoS hlo h1 h2 h0
  obtain ⟨hx, hb, hr, hml, hown, hts, hlk, hnm, hK, hfr, hlw⟩ := hC
  subst hn
  unfold x_lload at hq
  split at hq
  · rename_i x hv
    have hne : ¬ (vL x : aV) = vU := fun h => by cases h
    exact lv_lload_n hx hb hd hi (hl.get hv hne) (hP _ _ _ _ _ _ hq H ls locs cells slots hRp hl hoL (aok_cons.mpr ⟨hoL.get hv hne, hoS⟩) hlo h1 h2 h0)
  · exact hq.elim
theorem st_lload {own : String} {bytes : ByteArray} {ret : Option FieldType} {nm : String} {nL lv pc n : Nat} {i : Nat} (hd : decode bytes pc = .ok (.lload i, 2)) (hn : pc + 2 = n) : SOK own bytes ret nm nL lv pc (x_lload i n) := by
  intro g p l e R s m args below meth c call Q n0 hC hO P' hP L st u cc ss hq H ls locs cells slots hRp hl hoL hoS hlo h1 h2 h0
  obtain ⟨hx, hb, hr, hml, hown, hts, hlk, hnm, hK, hfr, hlw⟩ := hC
  subst hn
  unfold x_lload at hq
  split at hq
  · rename_i x hv
    have hne : ¬ (vL x : aV) = vU := fun h => by cases h
    exact lv_lload hx hb hd (hl.get hv hne) (hP _ _ _ _ _ _ hq H ls locs cells slots hRp hl hoL (aok_cons.mpr ⟨hoL.get hv hne, hoS⟩) hlo h1 h2 h0)
  · exact hq.elim
theorem st_dload_n {own : String} {bytes : ByteArray} {ret : Option FieldType} {nm : String} {nL lv pc n : Nat} {k : Fin 4} {i : Nat} (hd : decode bytes pc = .ok (.dload_n k, 1)) (hi : (k : Nat) = i) (hn : pc + 1 = n) : SOK own bytes ret nm nL lv pc (x_dload i n) := by
  intro g p l e R s m args below meth c call Q n0 hC hO P' hP L st u cc ss hq H ls locs cells slots hRp hl hoL hoS hlo h1 h2 h0
  obtain ⟨hx, hb, hr, hml, hown, hts, hlk, hnm, hK, hfr, hlw⟩ := hC
  subst hn
  unfold x_dload at hq
  split at hq
  · rename_i x hv
    have hne : ¬ (vD x : aV) = vU := fun h => by cases h
    exact lv_dload_n hx hb hd hi (hl.get hv hne) (hP _ _ _ _ _ _ hq H ls locs cells slots hRp hl hoL (aok_cons.mpr ⟨hoL.get hv hne, hoS⟩) hlo h1 h2 h0)
  · exact hq.elim
theorem st_dload {own : String} {bytes : ByteArray} {ret : Option FieldType} {nm : String} {nL lv pc n : Nat} {i : Nat} (hd : decode bytes pc = .ok (.dload i, 2)) (hn : pc + 2 = n) : SOK own bytes ret nm nL lv pc (x_dload i n) := by
  intro g p l e R s m args below meth c call Q n0 hC hO P' hP L st u cc ss hq H ls locs cells slots hRp hl hoL hoS hlo h1 h2 h0
  obtain ⟨hx, hb, hr, hml, hown, hts, hlk, hnm, hK, hfr, hlw⟩ := hC
  subst hn
  unfold x_dload at hq
  split at hq
  · rename_i x hv
    have hne : ¬ (vD x : aV) = vU := fun h => by cases h
    exact lv_dload hx hb hd (hl.get hv hne) (hP _ _ _ _ _ _ hq H ls locs cells slots hRp hl hoL (aok_cons.mpr ⟨hoL.get hv hne, hoS⟩) hlo h1 h2 h0)
  · exact hq.elim
theorem st_aload_n {own : String} {bytes : ByteArray} {ret : Option FieldType} {nm : String} {nL lv pc n : Nat} {k : Fin 4} {i : Nat} (hd : decode bytes pc = .ok (.aload_n k, 1)) (hi : (k : Nat) = i) (hn : pc + 1 = n) : SOK own bytes ret nm nL lv pc (x_aload i n) := by
  intro g p l e R s m args below meth c call Q n0 hC hO P' hP L st u cc ss hq H ls locs cells slots hRp hl hoL hoS hlo h1 h2 h0
  obtain ⟨hx, hb, hr, hml, hown, hts, hlk, hnm, hK, hfr, hlw⟩ := hC
  subst hn
  unfold x_aload at hq
  split at hq
  · rename_i r hv
    have hne : ¬ (.inr (.inl r) : aV) = vU := fun h => by cases h
    have hg := hl.get hv hne
    have ho := aok_cons.mpr ⟨hoL.get hv hne, hoS⟩
    have hk := hP _ _ _ _ _ _ hq H ls locs cells slots hRp hl hoL ho hlo h1 h2 h0
    cases r with
    | none => exact lv_aload_nN hx hb hd hi hg hk
    | some a => exact lv_aload_n hx hb hd hi hg hk
  · exact hq.elim
theorem st_aload {own : String} {bytes : ByteArray} {ret : Option FieldType} {nm : String} {nL lv pc n : Nat} {i : Nat} (hd : decode bytes pc = .ok (.aload i, 2)) (hn : pc + 2 = n) : SOK own bytes ret nm nL lv pc (x_aload i n) := by
  intro g p l e R s m args below meth c call Q n0 hC hO P' hP L st u cc ss hq H ls locs cells slots hRp hl hoL hoS hlo h1 h2 h0
  obtain ⟨hx, hb, hr, hml, hown, hts, hlk, hnm, hK, hfr, hlw⟩ := hC
  subst hn
  unfold x_aload at hq
  split at hq
  · rename_i r hv
    have hne : ¬ (.inr (.inl r) : aV) = vU := fun h => by cases h
    have hg := hl.get hv hne
    have ho := aok_cons.mpr ⟨hoL.get hv hne, hoS⟩
    have hk := hP _ _ _ _ _ _ hq H ls locs cells slots hRp hl hoL ho hlo h1 h2 h0
    cases r with
    | none => exact lv_aloadN hx hb hd  hg hk
    | some a => exact lv_aload hx hb hd  hg hk
  · exact hq.elim
theorem st_istore_n {own : String} {bytes : ByteArray} {ret : Option FieldType} {nm : String} {nL lv pc n : Nat} {k : Fin 4} {i : Nat} (hd : decode bytes pc = .ok (.istore_n k, 1)) (hi : (k : Nat) = i) (hn : pc + 1 = n) (hb2 : i < nL) : SOK own bytes ret nm nL lv pc (x_istore i n) := by
  intro g p l e R s m args below meth c call Q n0 hC hO P' hP L st u cc ss hq H ls locs cells slots hRp hl hoL hoS hlo h1 h2 h0
  obtain ⟨hx, hb, hr, hml, hown, hts, hlk, hnm, hK, hfr, hlw⟩ := hC
  subst hn
  unfold x_istore at hq
  split at hq
  · rename_i x st'
    obtain ⟨ox, oS⟩ := aok_cons.mp hoS
    exact lv_istore_n hx hb hd hi hl.has hb2 rfl (fun ls' h' => hP _ _ _ _ _ _ hq H ls' locs cells slots hRp (hl.st1 h') (aok_st1 hoL ox) oS hlo h1 h2 h0)
  · exact hq.elim
theorem st_istore {own : String} {bytes : ByteArray} {ret : Option FieldType} {nm : String} {nL lv pc n : Nat} {i : Nat} (hd : decode bytes pc = .ok (.istore i, 2)) (hn : pc + 2 = n) (hb2 : i < nL) : SOK own bytes ret nm nL lv pc (x_istore i n) := by
  intro g p l e R s m args below meth c call Q n0 hC hO P' hP L st u cc ss hq H ls locs cells slots hRp hl hoL hoS hlo h1 h2 h0
  obtain ⟨hx, hb, hr, hml, hown, hts, hlk, hnm, hK, hfr, hlw⟩ := hC
  subst hn
  unfold x_istore at hq
  split at hq
  · rename_i x st'
    obtain ⟨ox, oS⟩ := aok_cons.mp hoS
    exact lv_istore hx hb hd hl.has hb2 rfl (fun ls' h' => hP _ _ _ _ _ _ hq H ls' locs cells slots hRp (hl.st1 h') (aok_st1 hoL ox) oS hlo h1 h2 h0)
  · exact hq.elim
theorem st_fstore_n {own : String} {bytes : ByteArray} {ret : Option FieldType} {nm : String} {nL lv pc n : Nat} {k : Fin 4} {i : Nat} (hd : decode bytes pc = .ok (.fstore_n k, 1)) (hi : (k : Nat) = i) (hn : pc + 1 = n) (hb2 : i < nL) : SOK own bytes ret nm nL lv pc (x_fstore i n) := by
  intro g p l e R s m args below meth c call Q n0 hC hO P' hP L st u cc ss hq H ls locs cells slots hRp hl hoL hoS hlo h1 h2 h0
  obtain ⟨hx, hb, hr, hml, hown, hts, hlk, hnm, hK, hfr, hlw⟩ := hC
  subst hn
  unfold x_fstore at hq
  split at hq
  · rename_i x st'
    obtain ⟨ox, oS⟩ := aok_cons.mp hoS
    exact lv_fstore_n hx hb hd hi hl.has hb2 rfl (fun ls' h' => hP _ _ _ _ _ _ hq H ls' locs cells slots hRp (hl.st1 h') (aok_st1 hoL ox) oS hlo h1 h2 h0)
  · exact hq.elim
theorem st_fstore {own : String} {bytes : ByteArray} {ret : Option FieldType} {nm : String} {nL lv pc n : Nat} {i : Nat} (hd : decode bytes pc = .ok (.fstore i, 2)) (hn : pc + 2 = n) (hb2 : i < nL) : SOK own bytes ret nm nL lv pc (x_fstore i n) := by
  intro g p l e R s m args below meth c call Q n0 hC hO P' hP L st u cc ss hq H ls locs cells slots hRp hl hoL hoS hlo h1 h2 h0
  obtain ⟨hx, hb, hr, hml, hown, hts, hlk, hnm, hK, hfr, hlw⟩ := hC
  subst hn
  unfold x_fstore at hq
  split at hq
  · rename_i x st'
    obtain ⟨ox, oS⟩ := aok_cons.mp hoS
    exact lv_fstore hx hb hd hl.has hb2 rfl (fun ls' h' => hP _ _ _ _ _ _ hq H ls' locs cells slots hRp (hl.st1 h') (aok_st1 hoL ox) oS hlo h1 h2 h0)
  · exact hq.elim
theorem st_lstore_n {own : String} {bytes : ByteArray} {ret : Option FieldType} {nm : String} {nL lv pc n : Nat} {k : Fin 4} {i : Nat} (hd : decode bytes pc = .ok (.lstore_n k, 1)) (hi : (k : Nat) = i) (hn : pc + 1 = n) (hb2 : i + 1 < nL) : SOK own bytes ret nm nL lv pc (x_lstore i n) := by
  intro g p l e R s m args below meth c call Q n0 hC hO P' hP L st u cc ss hq H ls locs cells slots hRp hl hoL hoS hlo h1 h2 h0
  obtain ⟨hx, hb, hr, hml, hown, hts, hlk, hnm, hK, hfr, hlw⟩ := hC
  subst hn
  unfold x_lstore at hq
  split at hq
  · rename_i x st'
    obtain ⟨ox, oS⟩ := aok_cons.mp hoS
    exact lv_lstore_n hx hb hd hi hl.has hb2 rfl (fun ls' h' => hP _ _ _ _ _ _ hq H ls' locs cells slots hRp (hl.st2 h') (aok_st2 hoL ox) oS hlo h1 h2 h0)
  · exact hq.elim
theorem st_lstore {own : String} {bytes : ByteArray} {ret : Option FieldType} {nm : String} {nL lv pc n : Nat} {i : Nat} (hd : decode bytes pc = .ok (.lstore i, 2)) (hn : pc + 2 = n) (hb2 : i + 1 < nL) : SOK own bytes ret nm nL lv pc (x_lstore i n) := by
  intro g p l e R s m args below meth c call Q n0 hC hO P' hP L st u cc ss hq H ls locs cells slots hRp hl hoL hoS hlo h1 h2 h0
  obtain ⟨hx, hb, hr, hml, hown, hts, hlk, hnm, hK, hfr, hlw⟩ := hC
  subst hn
  unfold x_lstore at hq
  split at hq
  · rename_i x st'
    obtain ⟨ox, oS⟩ := aok_cons.mp hoS
    exact lv_lstore hx hb hd hl.has hb2 rfl (fun ls' h' => hP _ _ _ _ _ _ hq H ls' locs cells slots hRp (hl.st2 h') (aok_st2 hoL ox) oS hlo h1 h2 h0)
  · exact hq.elim
theorem st_dstore_n {own : String} {bytes : ByteArray} {ret : Option FieldType} {nm : String} {nL lv pc n : Nat} {k : Fin 4} {i : Nat} (hd : decode bytes pc = .ok (.dstore_n k, 1)) (hi : (k : Nat) = i) (hn : pc + 1 = n) (hb2 : i + 1 < nL) : SOK own bytes ret nm nL lv pc (x_dstore i n) := by
  intro g p l e R s m args below meth c call Q n0 hC hO P' hP L st u cc ss hq H ls locs cells slots hRp hl hoL hoS hlo h1 h2 h0
  obtain ⟨hx, hb, hr, hml, hown, hts, hlk, hnm, hK, hfr, hlw⟩ := hC
  subst hn
  unfold x_dstore at hq
  split at hq
  · rename_i x st'
    obtain ⟨ox, oS⟩ := aok_cons.mp hoS
    exact lv_dstore_n hx hb hd hi hl.has hb2 rfl (fun ls' h' => hP _ _ _ _ _ _ hq H ls' locs cells slots hRp (hl.st2 h') (aok_st2 hoL ox) oS hlo h1 h2 h0)
  · exact hq.elim
theorem st_dstore {own : String} {bytes : ByteArray} {ret : Option FieldType} {nm : String} {nL lv pc n : Nat} {i : Nat} (hd : decode bytes pc = .ok (.dstore i, 2)) (hn : pc + 2 = n) (hb2 : i + 1 < nL) : SOK own bytes ret nm nL lv pc (x_dstore i n) := by
  intro g p l e R s m args below meth c call Q n0 hC hO P' hP L st u cc ss hq H ls locs cells slots hRp hl hoL hoS hlo h1 h2 h0
  obtain ⟨hx, hb, hr, hml, hown, hts, hlk, hnm, hK, hfr, hlw⟩ := hC
  subst hn
  unfold x_dstore at hq
  split at hq
  · rename_i x st'
    obtain ⟨ox, oS⟩ := aok_cons.mp hoS
    exact lv_dstore hx hb hd hl.has hb2 rfl (fun ls' h' => hP _ _ _ _ _ _ hq H ls' locs cells slots hRp (hl.st2 h') (aok_st2 hoL ox) oS hlo h1 h2 h0)
  · exact hq.elim
theorem st_astore_n {own : String} {bytes : ByteArray} {ret : Option FieldType} {nm : String} {nL lv pc n : Nat} {k : Fin 4} {i : Nat} (hd : decode bytes pc = .ok (.astore_n k, 1)) (hi : (k : Nat) = i) (hn : pc + 1 = n) (hb2 : i < nL) : SOK own bytes ret nm nL lv pc (x_astore i n) := by
  intro g p l e R s m args below meth c call Q n0 hC hO P' hP L st u cc ss hq H ls locs cells slots hRp hl hoL hoS hlo h1 h2 h0
  obtain ⟨hx, hb, hr, hml, hown, hts, hlk, hnm, hK, hfr, hlw⟩ := hC
  subst hn
  unfold x_astore at hq
  split at hq
  · rename_i r st'
    obtain ⟨ox, oS⟩ := aok_cons.mp hoS
    cases r with
    | none => exact lv_astore_nN hx hb hd hi hl.has hb2 rfl (fun ls' h' => hP _ _ _ _ _ _ hq H ls' locs cells slots hRp (hl.st1 h') (aok_st1 hoL ox) oS hlo h1 h2 h0)
    | some a => exact lv_astore_n hx hb hd hi hl.has hb2 rfl (fun ls' h' => hP _ _ _ _ _ _ hq H ls' locs cells slots hRp (hl.st1 h') (aok_st1 hoL ox) oS hlo h1 h2 h0)
  · exact hq.elim
theorem st_astore {own : String} {bytes : ByteArray} {ret : Option FieldType} {nm : String} {nL lv pc n : Nat} {i : Nat} (hd : decode bytes pc = .ok (.astore i, 2)) (hn : pc + 2 = n) (hb2 : i < nL) : SOK own bytes ret nm nL lv pc (x_astore i n) := by
  intro g p l e R s m args below meth c call Q n0 hC hO P' hP L st u cc ss hq H ls locs cells slots hRp hl hoL hoS hlo h1 h2 h0
  obtain ⟨hx, hb, hr, hml, hown, hts, hlk, hnm, hK, hfr, hlw⟩ := hC
  subst hn
  unfold x_astore at hq
  split at hq
  · rename_i r st'
    obtain ⟨ox, oS⟩ := aok_cons.mp hoS
    cases r with
    | none => exact lv_astoreN hx hb hd  hl.has hb2 rfl (fun ls' h' => hP _ _ _ _ _ _ hq H ls' locs cells slots hRp (hl.st1 h') (aok_st1 hoL ox) oS hlo h1 h2 h0)
    | some a => exact lv_astore hx hb hd  hl.has hb2 rfl (fun ls' h' => hP _ _ _ _ _ _ hq H ls' locs cells slots hRp (hl.st1 h') (aok_st1 hoL ox) oS hlo h1 h2 h0)
  · exact hq.elim
theorem st_iinc {own : String} {bytes : ByteArray} {ret : Option FieldType} {nm : String} {nL lv pc n : Nat} {i : Nat} {k : Int} (hd : decode bytes pc = .ok (.iinc i k, 3)) (hn : pc + 3 = n) (hb2 : i < nL) : SOK own bytes ret nm nL lv pc (x_iinc i k n) := by
  intro g p l e R s m args below meth c call Q n0 hC hO P' hP L st u cc ss hq H ls locs cells slots hRp hl hoL hoS hlo h1 h2 h0
  obtain ⟨hx, hb, hr, hml, hown, hts, hlk, hnm, hK, hfr, hlw⟩ := hC
  subst hn
  unfold x_iinc at hq
  split at hq
  · rename_i x hv
    have hne : ¬ (.inl x : aV) = vU := fun h => by cases h
    obtain ⟨hr2, hq⟩ := z_go hq
    have hm := alv_mem g L 0 i (by rw [hv]; exact hne)
    rw [Nat.zero_add, hv] at hm
    obtain ⟨j, hj⟩ := List.getElem?_of_mem hm
    exact lv_iinc (v := Int32.ofInt (x + k)) hx hb hd hl.has hj (Int32.ofInt_add x k).symm hb2 rfl (fun ls' h' => hP _ _ _ _ _ _ hq H ls' locs cells slots hRp (hl.st1 h') (aok_st1 hoL hr2) hoS hlo h1 h2 h0)
  · exact hq.elim
theorem st_iadd {own : String} {bytes : ByteArray} {ret : Option FieldType} {nm : String} {nL lv pc n : Nat} (hd : decode bytes pc = .ok (.iadd, 1)) (hn : pc + 1 = n) : SOK own bytes ret nm nL lv pc (x_iadd n) := by
  intro g p l e R s m args below meth c call Q n0 hC hO P' hP L st u cc ss hq H ls locs cells slots hRp hl hoL hoS hlo h1 h2 h0
  obtain ⟨hx, hb, hr, hml, hown, hts, hlk, hnm, hK, hfr, hlw⟩ := hC
  subst hn
  unfold x_iadd at hq
  split at hq
  · rename_i y x st'
    obtain ⟨oy, oS⟩ := aok_cons.mp hoS
    obtain ⟨ox, oS⟩ := aok_cons.mp oS
    obtain ⟨hr2, hq⟩ := z_go hq
    have hk := hP _ _ _ _ _ _ hq H ls locs cells slots hRp hl hoL (aok_cons.mpr ⟨hr2, oS⟩) hlo h1 h2 h0
    have he : av g (.inl (x + y)) = .int (Int32.ofInt x + Int32.ofInt y) := congrArg Value.int (Int32.ofInt_add x y)
    rw [List.map_cons, he] at hk
    exact lv_iadd hx hb hd hk
  · exact hq.elim
theorem st_isub {own : String} {bytes : ByteArray} {ret : Option FieldType} {nm : String} {nL lv pc n : Nat} (hd : decode bytes pc = .ok (.isub, 1)) (hn : pc + 1 = n) : SOK own bytes ret nm nL lv pc (x_isub n) := by
  intro g p l e R s m args below meth c call Q n0 hC hO P' hP L st u cc ss hq H ls locs cells slots hRp hl hoL hoS hlo h1 h2 h0
  obtain ⟨hx, hb, hr, hml, hown, hts, hlk, hnm, hK, hfr, hlw⟩ := hC
  subst hn
  unfold x_isub at hq
  split at hq
  · rename_i y x st'
    obtain ⟨oy, oS⟩ := aok_cons.mp hoS
    obtain ⟨ox, oS⟩ := aok_cons.mp oS
    obtain ⟨hr2, hq⟩ := z_go hq
    have hk := hP _ _ _ _ _ _ hq H ls locs cells slots hRp hl hoL (aok_cons.mpr ⟨hr2, oS⟩) hlo h1 h2 h0
    have he : av g (.inl (x - y)) = .int (Int32.ofInt x - Int32.ofInt y) := congrArg Value.int (Int32.ofInt_sub x y)
    rw [List.map_cons, he] at hk
    exact lv_isub hx hb hd hk
  · exact hq.elim
theorem st_imul {own : String} {bytes : ByteArray} {ret : Option FieldType} {nm : String} {nL lv pc n : Nat} (hd : decode bytes pc = .ok (.imul, 1)) (hn : pc + 1 = n) : SOK own bytes ret nm nL lv pc (x_imul n) := by
  intro g p l e R s m args below meth c call Q n0 hC hO P' hP L st u cc ss hq H ls locs cells slots hRp hl hoL hoS hlo h1 h2 h0
  obtain ⟨hx, hb, hr, hml, hown, hts, hlk, hnm, hK, hfr, hlw⟩ := hC
  subst hn
  unfold x_imul at hq
  split at hq
  · rename_i y x st'
    obtain ⟨oy, oS⟩ := aok_cons.mp hoS
    obtain ⟨ox, oS⟩ := aok_cons.mp oS
    obtain ⟨hr2, hq⟩ := z_go hq
    have hk := hP _ _ _ _ _ _ hq H ls locs cells slots hRp hl hoL (aok_cons.mpr ⟨hr2, oS⟩) hlo h1 h2 h0
    have he : av g (.inl (x * y)) = .int (Int32.ofInt x * Int32.ofInt y) := congrArg Value.int (Int32.ofInt_mul x y)
    rw [List.map_cons, he] at hk
    exact lv_imul hx hb hd hk
  · exact hq.elim
theorem st_ineg {own : String} {bytes : ByteArray} {ret : Option FieldType} {nm : String} {nL lv pc n : Nat} (hd : decode bytes pc = .ok (.ineg, 1)) (hn : pc + 1 = n) : SOK own bytes ret nm nL lv pc (x_ineg n) := by
  intro g p l e R s m args below meth c call Q n0 hC hO P' hP L st u cc ss hq H ls locs cells slots hRp hl hoL hoS hlo h1 h2 h0
  obtain ⟨hx, hb, hr, hml, hown, hts, hlk, hnm, hK, hfr, hlw⟩ := hC
  subst hn
  unfold x_ineg at hq
  split at hq
  · rename_i x st'
    obtain ⟨ox, oS⟩ := aok_cons.mp hoS
    obtain ⟨hr2, hq⟩ := z_go hq
    have hk := hP _ _ _ _ _ _ hq H ls locs cells slots hRp hl hoL (aok_cons.mpr ⟨hr2, oS⟩) hlo h1 h2 h0
    have he : av g (.inl (-x)) = .int (-Int32.ofInt x) := congrArg Value.int (Int32.ofInt_neg x)
    rw [List.map_cons, he] at hk
    exact lv_ineg hx hb hd hk
  · exact hq.elim
theorem i_tmod {x y : Int} (hx : i_rg x) (hy : i_rg y) (h0 : ¬ y = 0) : Int32.ofInt x - Int32.ofInt x / Int32.ofInt y * Int32.ofInt y = Int32.ofInt (Int.tmod x y) := by
  rw [← Int32.toInt_inj, Int32.toInt_sub, Int32.toInt_mul, Int32.toInt_div, i_toInt hx, i_toInt hy]
  have h1 : (Int32.ofInt (Int.tmod x y)).toInt = (Int.tmod x y).bmod (2 ^ 32) := Int32.toInt_ofInt
  rw [h1, Int.bmod_mul_bmod, Int.sub_bmod_bmod, Int.tmod_def, Int.mul_comm y]
theorem i_tmod_rg {x y : Int} (hx : i_rg x) : i_rg (Int.tmod x y) := by
  have h := Int.natAbs_tmod x y
  have h2 : (Int.tmod x y).natAbs ≤ x.natAbs := by rw [h]; exact Nat.mod_le _ _
  by_cases hs : 0 ≤ x
  · have := Int.tmod_nonneg y hs
    exact ⟨by have := hx.1; omega, by have := hx.2; omega⟩
  · have h3 : Int.tmod x y ≤ 0 := by
      have h4 := Int.tmod_nonneg y (show 0 ≤ -x by omega)
      rw [Int.neg_tmod] at h4
      omega
    exact ⟨by have := hx.1; omega, by omega⟩
theorem st_irem {own : String} {bytes : ByteArray} {ret : Option FieldType} {nm : String} {nL lv pc n : Nat} (hd : decode bytes pc = .ok (.irem, 1)) (hn : pc + 1 = n) : SOK own bytes ret nm nL lv pc (x_irem n) := by
  intro g p l e R s m args below meth c call Q n0 hC hO P' hP L st u cc ss hq H ls locs cells slots hRp hl hoL hoS hlo h1 h2 h0
  obtain ⟨hx, hb, hr, hml, hown, hts, hlk, hnm, hK, hfr, hlw⟩ := hC
  subst hn
  unfold x_irem at hq
  split at hq
  · rename_i y x st'
    obtain ⟨oy, oS⟩ := aok_cons.mp hoS
    obtain ⟨ox, oS⟩ := aok_cons.mp oS
    by_cases hz0 : y = 0
    · rw [if_pos hz0] at hq; exact hq.elim
    · rw [if_neg hz0] at hq
      have hk := hP _ _ _ _ _ _ hq H ls locs cells slots hRp hl hoL (aok_cons.mpr ⟨i_tmod_rg ox, oS⟩) hlo h1 h2 h0
      have he : av g (.inl (Int.tmod x y)) = .int (Int32.ofInt x - Int32.ofInt x / Int32.ofInt y * Int32.ofInt y) := congrArg Value.int (i_tmod ox oy hz0).symm
      rw [List.map_cons, he] at hk
      exact lv_irem hx hb hd (fun q => hz0 ((i_eq oy i_rg0).mp (q.trans i_0))) hk
  · exact hq.elim
theorem st_iand {own : String} {bytes : ByteArray} {ret : Option FieldType} {nm : String} {nL lv pc n : Nat} (hd : decode bytes pc = .ok (.iand, 1)) (hn : pc + 1 = n) : SOK own bytes ret nm nL lv pc (x_iand n) := by
  intro g p l e R s m args below meth c call Q n0 hC hO P' hP L st u cc ss hq H ls locs cells slots hRp hl hoL hoS hlo h1 h2 h0
  obtain ⟨hx, hb, hr, hml, hown, hts, hlk, hnm, hK, hfr, hlw⟩ := hC
  subst hn
  unfold x_iand at hq
  split at hq
  · rename_i y x st'
    obtain ⟨oy, oS⟩ := aok_cons.mp hoS
    obtain ⟨ox, oS⟩ := aok_cons.mp oS
    have hk := hP _ _ _ _ _ _ hq H ls locs cells slots hRp hl hoL (aok_cons.mpr ⟨i_of32 _, oS⟩) hlo h1 h2 h0
    unfold b_and at hk
    rw [List.map_cons, show ∀ z : Int32, av g (.inl z.toInt) = .int z from fun z => congrArg Value.int (Int32.ofInt_toInt z)] at hk
    exact lv_iand hx hb hd hk
  · exact hq.elim
theorem st_ior {own : String} {bytes : ByteArray} {ret : Option FieldType} {nm : String} {nL lv pc n : Nat} (hd : decode bytes pc = .ok (.ior, 1)) (hn : pc + 1 = n) : SOK own bytes ret nm nL lv pc (x_ior n) := by
  intro g p l e R s m args below meth c call Q n0 hC hO P' hP L st u cc ss hq H ls locs cells slots hRp hl hoL hoS hlo h1 h2 h0
  obtain ⟨hx, hb, hr, hml, hown, hts, hlk, hnm, hK, hfr, hlw⟩ := hC
  subst hn
  unfold x_ior at hq
  split at hq
  · rename_i y x st'
    obtain ⟨oy, oS⟩ := aok_cons.mp hoS
    obtain ⟨ox, oS⟩ := aok_cons.mp oS
    have hk := hP _ _ _ _ _ _ hq H ls locs cells slots hRp hl hoL (aok_cons.mpr ⟨i_of32 _, oS⟩) hlo h1 h2 h0
    unfold b_or at hk
    rw [List.map_cons, show ∀ z : Int32, av g (.inl z.toInt) = .int z from fun z => congrArg Value.int (Int32.ofInt_toInt z)] at hk
    exact lv_ior hx hb hd hk
  · exact hq.elim
theorem st_ishl {own : String} {bytes : ByteArray} {ret : Option FieldType} {nm : String} {nL lv pc n : Nat} (hd : decode bytes pc = .ok (.ishl, 1)) (hn : pc + 1 = n) : SOK own bytes ret nm nL lv pc (x_ishl n) := by
  intro g p l e R s m args below meth c call Q n0 hC hO P' hP L st u cc ss hq H ls locs cells slots hRp hl hoL hoS hlo h1 h2 h0
  obtain ⟨hx, hb, hr, hml, hown, hts, hlk, hnm, hK, hfr, hlw⟩ := hC
  subst hn
  unfold x_ishl at hq
  split at hq
  · rename_i y x st'
    obtain ⟨oy, oS⟩ := aok_cons.mp hoS
    obtain ⟨ox, oS⟩ := aok_cons.mp oS
    have hk := hP _ _ _ _ _ _ hq H ls locs cells slots hRp hl hoL (aok_cons.mpr ⟨i_of32 _, oS⟩) hlo h1 h2 h0
    unfold b_shl at hk
    rw [List.map_cons, show ∀ z : Int32, av g (.inl z.toInt) = .int z from fun z => congrArg Value.int (Int32.ofInt_toInt z)] at hk
    exact lv_ishl hx hb hd hk
  · exact hq.elim
theorem st_i2l {own : String} {bytes : ByteArray} {ret : Option FieldType} {nm : String} {nL lv pc n : Nat} (hd : decode bytes pc = .ok (.i2l, 1)) (hn : pc + 1 = n) : SOK own bytes ret nm nL lv pc (x_i2l n) := by
  intro g p l e R s m args below meth c call Q n0 hC hO P' hP L st u cc ss hq H ls locs cells slots hRp hl hoL hoS hlo h1 h2 h0
  obtain ⟨hx, hb, hr, hml, hown, hts, hlk, hnm, hK, hfr, hlw⟩ := hC
  subst hn
  unfold x_i2l at hq
  split at hq
  · rename_i x st'
    obtain ⟨ox, oS⟩ := aok_cons.mp hoS
    have hL : l_rg x := ⟨by have := ox.1; omega, by have := ox.2; omega⟩
    exact lv_i2l hx hb hd (by rw [← Int64.toInt_inj, Int32.toInt_toInt64, i_toInt ox, l_toInt hL]) (hP _ _ _ _ _ _ hq H ls locs cells slots hRp hl hoL (aok_cons.mpr ⟨hL, oS⟩) hlo h1 h2 h0)
  · exact hq.elim
theorem st_l2i {own : String} {bytes : ByteArray} {ret : Option FieldType} {nm : String} {nL lv pc n : Nat} (hd : decode bytes pc = .ok (.l2i, 1)) (hn : pc + 1 = n) : SOK own bytes ret nm nL lv pc (x_l2i n) := by
  intro g p l e R s m args below meth c call Q n0 hC hO P' hP L st u cc ss hq H ls locs cells slots hRp hl hoL hoS hlo h1 h2 h0
  obtain ⟨hx, hb, hr, hml, hown, hts, hlk, hnm, hK, hfr, hlw⟩ := hC
  subst hn
  unfold x_l2i at hq
  split at hq
  · rename_i x st'
    obtain ⟨ox, oS⟩ := aok_cons.mp hoS
    exact lv_l2i hx hb hd (by unfold b_l2i; rw [Int32.ofInt_toInt]) (hP _ _ _ _ _ _ hq H ls locs cells slots hRp hl hoL (aok_cons.mpr ⟨i_of32 _, oS⟩) hlo h1 h2 h0)
  · exact hq.elim
theorem st_lor {own : String} {bytes : ByteArray} {ret : Option FieldType} {nm : String} {nL lv pc n : Nat} (hd : decode bytes pc = .ok (.lor, 1)) (hn : pc + 1 = n) : SOK own bytes ret nm nL lv pc (x_lor n) := by
  intro g p l e R s m args below meth c call Q n0 hC hO P' hP L st u cc ss hq H ls locs cells slots hRp hl hoL hoS hlo h1 h2 h0
  obtain ⟨hx, hb, hr, hml, hown, hts, hlk, hnm, hK, hfr, hlw⟩ := hC
  subst hn
  unfold x_lor at hq
  split at hq
  · rename_i y x st'
    obtain ⟨oy, oS⟩ := aok_cons.mp hoS
    obtain ⟨ox, oS⟩ := aok_cons.mp oS
    have hk := hP _ _ _ _ _ _ hq H ls locs cells slots hRp hl hoL (aok_cons.mpr ⟨l_of64 _, oS⟩) hlo h1 h2 h0
    unfold b_lor at hk
    rw [List.map_cons, show ∀ z : Int64, av g (vL z.toInt) = .long z from fun z => congrArg Value.long (Int64.ofInt_toInt z)] at hk
    exact lv_lor hx hb hd hk
  · exact hq.elim
theorem st_lshl {own : String} {bytes : ByteArray} {ret : Option FieldType} {nm : String} {nL lv pc n : Nat} (hd : decode bytes pc = .ok (.lshl, 1)) (hn : pc + 1 = n) : SOK own bytes ret nm nL lv pc (x_lshl n) := by
  intro g p l e R s m args below meth c call Q n0 hC hO P' hP L st u cc ss hq H ls locs cells slots hRp hl hoL hoS hlo h1 h2 h0
  obtain ⟨hx, hb, hr, hml, hown, hts, hlk, hnm, hK, hfr, hlw⟩ := hC
  subst hn
  unfold x_lshl at hq
  split at hq
  · rename_i y x st'
    obtain ⟨oy, oS⟩ := aok_cons.mp hoS
    obtain ⟨ox, oS⟩ := aok_cons.mp oS
    exact lv_lshl hx hb hd (by unfold b_lshl; rw [Int64.ofInt_toInt]) (hP _ _ _ _ _ _ hq H ls locs cells slots hRp hl hoL (aok_cons.mpr ⟨l_of64 _, oS⟩) hlo h1 h2 h0)
  · exact hq.elim
theorem st_ladd {own : String} {bytes : ByteArray} {ret : Option FieldType} {nm : String} {nL lv pc n : Nat} (hd : decode bytes pc = .ok (.ladd, 1)) (hn : pc + 1 = n) : SOK own bytes ret nm nL lv pc (x_ladd n) := by
  intro g p l e R s m args below meth c call Q n0 hC hO P' hP L st u cc ss hq H ls locs cells slots hRp hl hoL hoS hlo h1 h2 h0
  obtain ⟨hx, hb, hr, hml, hown, hts, hlk, hnm, hK, hfr, hlw⟩ := hC
  subst hn
  unfold x_ladd at hq
  split at hq
  · rename_i y x st'
    obtain ⟨oy, oS⟩ := aok_cons.mp hoS
    obtain ⟨ox, oS⟩ := aok_cons.mp oS
    obtain ⟨hr2, hq⟩ := hq
    have hk := hP _ _ _ _ _ _ hq H ls locs cells slots hRp hl hoL (aok_cons.mpr ⟨hr2, oS⟩) hlo h1 h2 h0
    have he : av g (vL (x + y)) = .long (Int64.ofInt x + Int64.ofInt y) := congrArg Value.long (Int64.ofInt_add x y)
    rw [List.map_cons, he] at hk
    exact lv_ladd hx hb hd hk
  · exact hq.elim
theorem st_lsub {own : String} {bytes : ByteArray} {ret : Option FieldType} {nm : String} {nL lv pc n : Nat} (hd : decode bytes pc = .ok (.lsub, 1)) (hn : pc + 1 = n) : SOK own bytes ret nm nL lv pc (x_lsub n) := by
  intro g p l e R s m args below meth c call Q n0 hC hO P' hP L st u cc ss hq H ls locs cells slots hRp hl hoL hoS hlo h1 h2 h0
  obtain ⟨hx, hb, hr, hml, hown, hts, hlk, hnm, hK, hfr, hlw⟩ := hC
  subst hn
  unfold x_lsub at hq
  split at hq
  · rename_i y x st'
    obtain ⟨oy, oS⟩ := aok_cons.mp hoS
    obtain ⟨ox, oS⟩ := aok_cons.mp oS
    obtain ⟨hr2, hq⟩ := hq
    have hk := hP _ _ _ _ _ _ hq H ls locs cells slots hRp hl hoL (aok_cons.mpr ⟨hr2, oS⟩) hlo h1 h2 h0
    have he : av g (vL (x - y)) = .long (Int64.ofInt x - Int64.ofInt y) := congrArg Value.long (Int64.ofInt_sub x y)
    rw [List.map_cons, he] at hk
    exact lv_lsub hx hb hd hk
  · exact hq.elim
theorem b_cmp_ok {x y : Int} (hx : l_rg x) (hy : l_rg y) : Int32.ofInt (b_cmp x y) = lg_cmp (Int64.ofInt x) (Int64.ofInt y) := by
  unfold b_cmp lg_cmp
  have h1 : (Int64.ofInt x > Int64.ofInt y) ↔ y < x := by
    show Int64.ofInt y < Int64.ofInt x ↔ _
    rw [Int64.lt_iff_toInt_lt, l_toInt hx, l_toInt hy]
  have h2 : (Int64.ofInt x = Int64.ofInt y) ↔ x = y := by
    rw [← Int64.toInt_inj, l_toInt hx, l_toInt hy]
  by_cases a : x < y
  · rw [if_pos a, if_neg (by rw [h1]; omega), if_neg (by rw [h2]; omega)]; rfl
  · rw [if_neg a]
    by_cases b : x = y
    · rw [if_pos b, if_neg (by rw [h1]; omega), if_pos (h2.mpr b)]; rfl
    · rw [if_neg b, if_pos (h1.mpr (by omega))]; rfl
theorem b_cmp_rg (x y : Int) : i_rg (b_cmp x y) := by
  unfold b_cmp
  split
  · exact ⟨by decide, by decide⟩
  · split <;> exact ⟨by decide, by decide⟩
theorem st_lcmp {own : String} {bytes : ByteArray} {ret : Option FieldType} {nm : String} {nL lv pc n : Nat} (hd : decode bytes pc = .ok (.lcmp, 1)) (hn : pc + 1 = n) : SOK own bytes ret nm nL lv pc (x_lcmp n) := by
  intro g p l e R s m args below meth c call Q n0 hC hO P' hP L st u cc ss hq H ls locs cells slots hRp hl hoL hoS hlo h1 h2 h0
  obtain ⟨hx, hb, hr, hml, hown, hts, hlk, hnm, hK, hfr, hlw⟩ := hC
  subst hn
  unfold x_lcmp at hq
  split at hq
  · rename_i y x st'
    obtain ⟨oy, oS⟩ := aok_cons.mp hoS
    obtain ⟨ox, oS⟩ := aok_cons.mp oS
    have hk := hP _ _ _ _ _ _ hq H ls locs cells slots hRp hl hoL (aok_cons.mpr ⟨b_cmp_rg x y, oS⟩) hlo h1 h2 h0
    have he : av g (.inl (b_cmp x y)) = .int (lg_cmp (Int64.ofInt x) (Int64.ofInt y)) := congrArg Value.int (b_cmp_ok ox oy)
    rw [List.map_cons, he] at hk
    exact W.lcmp hx hb hd hk
  · exact hq.elim
theorem st_i2f {own : String} {bytes : ByteArray} {ret : Option FieldType} {nm : String} {nL lv pc n : Nat} (hd : decode bytes pc = .ok (.i2f, 1)) (hn : pc + 1 = n) : SOK own bytes ret nm nL lv pc (x_i2f n) := by
  intro g p l e R s m args below meth c call Q n0 hC hO P' hP L st u cc ss hq H ls locs cells slots hRp hl hoL hoS hlo h1 h2 h0
  obtain ⟨hx, hb, hr, hml, hown, hts, hlk, hnm, hK, hfr, hlw⟩ := hC
  subst hn
  unfold x_i2f at hq
  split at hq
  · rename_i x st'
    obtain ⟨ox, oS⟩ := aok_cons.mp hoS
    exact lv_i2f hx hb hd (hP _ _ _ _ _ _ hq H ls locs cells slots hRp hl hoL (aok_cons.mpr ⟨trivial, oS⟩) hlo h1 h2 h0)
  · exact hq.elim
theorem st_f2i {own : String} {bytes : ByteArray} {ret : Option FieldType} {nm : String} {nL lv pc n : Nat} (hd : decode bytes pc = .ok (.f2i, 1)) (hn : pc + 1 = n) : SOK own bytes ret nm nL lv pc (x_f2i n) := by
  intro g p l e R s m args below meth c call Q n0 hC hO P' hP L st u cc ss hq H ls locs cells slots hRp hl hoL hoS hlo h1 h2 h0
  obtain ⟨hx, hb, hr, hml, hown, hts, hlk, hnm, hK, hfr, hlw⟩ := hC
  subst hn
  unfold x_f2i at hq
  split at hq
  · rename_i f st'
    obtain ⟨ox, oS⟩ := aok_cons.mp hoS
    have hk := hP _ _ _ _ _ _ hq H ls locs cells slots hRp hl hoL (aok_cons.mpr ⟨i_of32 _, oS⟩) hlo h1 h2 h0
    rw [List.map_cons, show ∀ z : Int32, av g (.inl z.toInt) = .int z from fun z => congrArg Value.int (Int32.ofInt_toInt z)] at hk
    exact lv_f2i hx hb hd hk
  · exact hq.elim
theorem st_f2d {own : String} {bytes : ByteArray} {ret : Option FieldType} {nm : String} {nL lv pc n : Nat} (hd : decode bytes pc = .ok (.f2d, 1)) (hn : pc + 1 = n) : SOK own bytes ret nm nL lv pc (x_f2d n) := by
  intro g p l e R s m args below meth c call Q n0 hC hO P' hP L st u cc ss hq H ls locs cells slots hRp hl hoL hoS hlo h1 h2 h0
  obtain ⟨hx, hb, hr, hml, hown, hts, hlk, hnm, hK, hfr, hlw⟩ := hC
  subst hn
  unfold x_f2d at hq
  split at hq
  · rename_i f st'
    obtain ⟨ox, oS⟩ := aok_cons.mp hoS
    obtain ⟨hr2, hq⟩ := hq
    exact lv_f2d hx hb hd hr2 (hP _ _ _ _ _ _ hq H ls locs cells slots hRp hl hoL (aok_cons.mpr ⟨trivial, oS⟩) hlo h1 h2 h0)
  · exact hq.elim
theorem st_l2d {own : String} {bytes : ByteArray} {ret : Option FieldType} {nm : String} {nL lv pc n : Nat} (hd : decode bytes pc = .ok (.l2d, 1)) (hn : pc + 1 = n) : SOK own bytes ret nm nL lv pc (x_l2d n) := by
  intro g p l e R s m args below meth c call Q n0 hC hO P' hP L st u cc ss hq H ls locs cells slots hRp hl hoL hoS hlo h1 h2 h0
  obtain ⟨hx, hb, hr, hml, hown, hts, hlk, hnm, hK, hfr, hlw⟩ := hC
  subst hn
  unfold x_l2d at hq
  split at hq
  · rename_i f st'
    obtain ⟨ox, oS⟩ := aok_cons.mp hoS
    exact lv_l2d hx hb hd (hP _ _ _ _ _ _ hq H ls locs cells slots hRp hl hoL (aok_cons.mpr ⟨trivial, oS⟩) hlo h1 h2 h0)
  · exact hq.elim
theorem st_d2l {own : String} {bytes : ByteArray} {ret : Option FieldType} {nm : String} {nL lv pc n : Nat} (hd : decode bytes pc = .ok (.d2l, 1)) (hn : pc + 1 = n) : SOK own bytes ret nm nL lv pc (x_d2l n) := by
  intro g p l e R s m args below meth c call Q n0 hC hO P' hP L st u cc ss hq H ls locs cells slots hRp hl hoL hoS hlo h1 h2 h0
  obtain ⟨hx, hb, hr, hml, hown, hts, hlk, hnm, hK, hfr, hlw⟩ := hC
  subst hn
  unfold x_d2l at hq
  split at hq
  · rename_i f st'
    obtain ⟨ox, oS⟩ := aok_cons.mp hoS
    have hk := hP _ _ _ _ _ _ hq H ls locs cells slots hRp hl hoL (aok_cons.mpr ⟨l_of64 _, oS⟩) hlo h1 h2 h0
    rw [List.map_cons, show ∀ z : Int64, av g (vL z.toInt) = .long z from fun z => congrArg Value.long (Int64.ofInt_toInt z)] at hk
    exact lv_d2l hx hb hd hk
  · exact hq.elim
theorem st_fadd {own : String} {bytes : ByteArray} {ret : Option FieldType} {nm : String} {nL lv pc n : Nat} (hd : decode bytes pc = .ok (.fadd, 1)) (hn : pc + 1 = n) : SOK own bytes ret nm nL lv pc (x_fadd n) := by
  intro g p l e R s m args below meth c call Q n0 hC hO P' hP L st u cc ss hq H ls locs cells slots hRp hl hoL hoS hlo h1 h2 h0
  obtain ⟨hx, hb, hr, hml, hown, hts, hlk, hnm, hK, hfr, hlw⟩ := hC
  subst hn
  unfold x_fadd at hq
  split at hq
  · rename_i y x st'
    obtain ⟨oy, oS⟩ := aok_cons.mp hoS
    obtain ⟨ox, oS⟩ := aok_cons.mp oS
    obtain ⟨hr2, hq⟩ := hq
    exact lv_fadd hx hb hd hr2 (hP _ _ _ _ _ _ hq H ls locs cells slots hRp hl hoL (aok_cons.mpr ⟨trivial, oS⟩) hlo h1 h2 h0)
  · exact hq.elim
theorem st_fmul {own : String} {bytes : ByteArray} {ret : Option FieldType} {nm : String} {nL lv pc n : Nat} (hd : decode bytes pc = .ok (.fmul, 1)) (hn : pc + 1 = n) : SOK own bytes ret nm nL lv pc (x_fmul n) := by
  intro g p l e R s m args below meth c call Q n0 hC hO P' hP L st u cc ss hq H ls locs cells slots hRp hl hoL hoS hlo h1 h2 h0
  obtain ⟨hx, hb, hr, hml, hown, hts, hlk, hnm, hK, hfr, hlw⟩ := hC
  subst hn
  unfold x_fmul at hq
  split at hq
  · rename_i y x st'
    obtain ⟨oy, oS⟩ := aok_cons.mp hoS
    obtain ⟨ox, oS⟩ := aok_cons.mp oS
    obtain ⟨hr2, hq⟩ := hq
    exact lv_fmul hx hb hd hr2 (hP _ _ _ _ _ _ hq H ls locs cells slots hRp hl hoL (aok_cons.mpr ⟨trivial, oS⟩) hlo h1 h2 h0)
  · exact hq.elim
theorem st_fdiv {own : String} {bytes : ByteArray} {ret : Option FieldType} {nm : String} {nL lv pc n : Nat} (hd : decode bytes pc = .ok (.fdiv, 1)) (hn : pc + 1 = n) : SOK own bytes ret nm nL lv pc (x_fdiv n) := by
  intro g p l e R s m args below meth c call Q n0 hC hO P' hP L st u cc ss hq H ls locs cells slots hRp hl hoL hoS hlo h1 h2 h0
  obtain ⟨hx, hb, hr, hml, hown, hts, hlk, hnm, hK, hfr, hlw⟩ := hC
  subst hn
  unfold x_fdiv at hq
  split at hq
  · rename_i y x st'
    obtain ⟨oy, oS⟩ := aok_cons.mp hoS
    obtain ⟨ox, oS⟩ := aok_cons.mp oS
    obtain ⟨hr2, hq⟩ := hq
    exact lv_fdiv hx hb hd hr2 (hP _ _ _ _ _ _ hq H ls locs cells slots hRp hl hoL (aok_cons.mpr ⟨trivial, oS⟩) hlo h1 h2 h0)
  · exact hq.elim
theorem st_dadd {own : String} {bytes : ByteArray} {ret : Option FieldType} {nm : String} {nL lv pc n : Nat} (hd : decode bytes pc = .ok (.dadd, 1)) (hn : pc + 1 = n) : SOK own bytes ret nm nL lv pc (x_dadd n) := by
  intro g p l e R s m args below meth c call Q n0 hC hO P' hP L st u cc ss hq H ls locs cells slots hRp hl hoL hoS hlo h1 h2 h0
  obtain ⟨hx, hb, hr, hml, hown, hts, hlk, hnm, hK, hfr, hlw⟩ := hC
  subst hn
  unfold x_dadd at hq
  split at hq
  · rename_i y x st'
    obtain ⟨oy, oS⟩ := aok_cons.mp hoS
    obtain ⟨ox, oS⟩ := aok_cons.mp oS
    obtain ⟨hr2, hq⟩ := hq
    exact lv_dadd hx hb hd hr2 (hP _ _ _ _ _ _ hq H ls locs cells slots hRp hl hoL (aok_cons.mpr ⟨trivial, oS⟩) hlo h1 h2 h0)
  · exact hq.elim
theorem st_dmul {own : String} {bytes : ByteArray} {ret : Option FieldType} {nm : String} {nL lv pc n : Nat} (hd : decode bytes pc = .ok (.dmul, 1)) (hn : pc + 1 = n) : SOK own bytes ret nm nL lv pc (x_dmul n) := by
  intro g p l e R s m args below meth c call Q n0 hC hO P' hP L st u cc ss hq H ls locs cells slots hRp hl hoL hoS hlo h1 h2 h0
  obtain ⟨hx, hb, hr, hml, hown, hts, hlk, hnm, hK, hfr, hlw⟩ := hC
  subst hn
  unfold x_dmul at hq
  split at hq
  · rename_i y x st'
    obtain ⟨oy, oS⟩ := aok_cons.mp hoS
    obtain ⟨ox, oS⟩ := aok_cons.mp oS
    obtain ⟨hr2, hq⟩ := hq
    exact lv_dmul hx hb hd hr2 (hP _ _ _ _ _ _ hq H ls locs cells slots hRp hl hoL (aok_cons.mpr ⟨trivial, oS⟩) hlo h1 h2 h0)
  · exact hq.elim
theorem st_ddiv {own : String} {bytes : ByteArray} {ret : Option FieldType} {nm : String} {nL lv pc n : Nat} (hd : decode bytes pc = .ok (.ddiv, 1)) (hn : pc + 1 = n) : SOK own bytes ret nm nL lv pc (x_ddiv n) := by
  intro g p l e R s m args below meth c call Q n0 hC hO P' hP L st u cc ss hq H ls locs cells slots hRp hl hoL hoS hlo h1 h2 h0
  obtain ⟨hx, hb, hr, hml, hown, hts, hlk, hnm, hK, hfr, hlw⟩ := hC
  subst hn
  unfold x_ddiv at hq
  split at hq
  · rename_i y x st'
    obtain ⟨oy, oS⟩ := aok_cons.mp hoS
    obtain ⟨ox, oS⟩ := aok_cons.mp oS
    obtain ⟨hr2, hq⟩ := hq
    exact lv_ddiv hx hb hd hr2 (hP _ _ _ _ _ _ hq H ls locs cells slots hRp hl hoL (aok_cons.mpr ⟨trivial, oS⟩) hlo h1 h2 h0)
  · exact hq.elim
theorem st_fneg {own : String} {bytes : ByteArray} {ret : Option FieldType} {nm : String} {nL lv pc n : Nat} (hd : decode bytes pc = .ok (.fneg, 1)) (hn : pc + 1 = n) : SOK own bytes ret nm nL lv pc (x_fneg n) := by
  intro g p l e R s m args below meth c call Q n0 hC hO P' hP L st u cc ss hq H ls locs cells slots hRp hl hoL hoS hlo h1 h2 h0
  obtain ⟨hx, hb, hr, hml, hown, hts, hlk, hnm, hK, hfr, hlw⟩ := hC
  subst hn
  unfold x_fneg at hq
  split at hq
  · rename_i x st'
    obtain ⟨ox, oS⟩ := aok_cons.mp hoS
    exact lv_fneg hx hb hd (hP _ _ _ _ _ _ hq H ls locs cells slots hRp hl hoL (aok_cons.mpr ⟨trivial, oS⟩) hlo h1 h2 h0)
  · exact hq.elim
theorem st_dneg {own : String} {bytes : ByteArray} {ret : Option FieldType} {nm : String} {nL lv pc n : Nat} (hd : decode bytes pc = .ok (.dneg, 1)) (hn : pc + 1 = n) : SOK own bytes ret nm nL lv pc (x_dneg n) := by
  intro g p l e R s m args below meth c call Q n0 hC hO P' hP L st u cc ss hq H ls locs cells slots hRp hl hoL hoS hlo h1 h2 h0
  obtain ⟨hx, hb, hr, hml, hown, hts, hlk, hnm, hK, hfr, hlw⟩ := hC
  subst hn
  unfold x_dneg at hq
  split at hq
  · rename_i x st'
    obtain ⟨ox, oS⟩ := aok_cons.mp hoS
    exact lv_dneg hx hb hd (hP _ _ _ _ _ _ hq H ls locs cells slots hRp hl hoL (aok_cons.mpr ⟨trivial, oS⟩) hlo h1 h2 h0)
  · exact hq.elim
theorem st_fcmp {own : String} {bytes : ByteArray} {ret : Option FieldType} {nm : String} {nL lv pc n : Nat} {op : CmpOp} (hd : decode bytes pc = .ok (.fcmp op, 1)) (hn : pc + 1 = n) : SOK own bytes ret nm nL lv pc (x_fcmp op n) := by
  intro g p l e R s m args below meth c call Q n0 hC hO P' hP L st u cc ss hq H ls locs cells slots hRp hl hoL hoS hlo h1 h2 h0
  obtain ⟨hx, hb, hr, hml, hown, hts, hlk, hnm, hK, hfr, hlw⟩ := hC
  subst hn
  unfold x_fcmp at hq
  split at hq
  · rename_i y x st'
    obtain ⟨oy, oS⟩ := aok_cons.mp hoS
    obtain ⟨ox, oS⟩ := aok_cons.mp oS
    have hk := hP _ _ _ _ _ _ hq H ls locs cells slots hRp hl hoL (aok_cons.mpr ⟨i_of32 _, oS⟩) hlo h1 h2 h0
    rw [List.map_cons, show ∀ z : Int32, av g (.inl z.toInt) = .int z from fun z => congrArg Value.int (Int32.ofInt_toInt z)] at hk
    exact lv_fcmp hx hb hd hk
  · exact hq.elim
theorem st_dcmp {own : String} {bytes : ByteArray} {ret : Option FieldType} {nm : String} {nL lv pc n : Nat} {op : CmpOp} (hd : decode bytes pc = .ok (.dcmp op, 1)) (hn : pc + 1 = n) : SOK own bytes ret nm nL lv pc (x_dcmp op n) := by
  intro g p l e R s m args below meth c call Q n0 hC hO P' hP L st u cc ss hq H ls locs cells slots hRp hl hoL hoS hlo h1 h2 h0
  obtain ⟨hx, hb, hr, hml, hown, hts, hlk, hnm, hK, hfr, hlw⟩ := hC
  subst hn
  unfold x_dcmp at hq
  split at hq
  · rename_i y x st'
    obtain ⟨oy, oS⟩ := aok_cons.mp hoS
    obtain ⟨ox, oS⟩ := aok_cons.mp oS
    have hk := hP _ _ _ _ _ _ hq H ls locs cells slots hRp hl hoL (aok_cons.mpr ⟨i_of32 _, oS⟩) hlo h1 h2 h0
    rw [List.map_cons, show ∀ z : Int32, av g (.inl z.toInt) = .int z from fun z => congrArg Value.int (Int32.ofInt_toInt z)] at hk
    exact lv_dcmp hx hb hd hk
  · exact hq.elim
theorem st_ifeq {own : String} {bytes : ByteArray} {ret : Option FieldType} {nm : String} {nL lv pc n : Nat} {off : Int} {t : Nat} (hd : decode bytes pc = .ok (.ifCond .eq off, 3)) (ht : (pc : Int) + off = (t : Int)) (hn : pc + 3 = n) : SOK own bytes ret nm nL lv pc (x_ifeq t n) := by
  intro g p l e R s m args below meth c call Q n0 hC hO P' hP L st u cc ss hq H ls locs cells slots hRp hl hoL hoS hlo h1 h2 h0
  obtain ⟨hx, hb, hr, hml, hown, hts, hlk, hnm, hK, hfr, hlw⟩ := hC
  subst hn
  unfold x_ifeq at hq
  split at hq
  · rename_i x st'
    obtain ⟨ox, oS⟩ := aok_cons.mp hoS
    have key : ∀ (c : Prop) [Decidable c] (A B : Prop), (if c then A else B) → (c → A) ∧ (¬ c → B) := fun c _ A B h => ⟨fun q => by rw [if_pos q] at h; exact h, fun q => by rw [if_neg q] at h; exact h⟩
    have hk := key _ _ _ hq
    refine lv_if_eq hx hb hd ht (fun h => ?_) (fun h => ?_)
    · have hq := hk.1 (by have e1 := i_eq ox i_rg0; have e2 := i_lt ox i_rg0; have e3 := i_lt i_rg0 ox; have e4 := i_le ox i_rg0; have e5 := i_le i_rg0 ox; rw [← i_0] at e1 e2 e3 e4 e5; first | (rw [e1] at h; exact h) | (rw [e2] at h; exact h) | (rw [e3] at h; exact h) | (rw [e4] at h; omega) | (rw [e5] at h; omega) | (rw [e2] at h; omega) | (rw [e3] at h; omega) | (rw [GT.gt, e3] at h; exact h) | (rw [GE.ge, e5] at h; omega) | (rw [GT.gt, e3] at h; omega))
      exact hP _ _ _ _ _ _ hq H ls locs cells slots hRp hl hoL oS hlo h1 h2 h0
    · have hq := hk.2 (by have e1 := i_eq ox i_rg0; have e2 := i_lt ox i_rg0; have e3 := i_lt i_rg0 ox; have e4 := i_le ox i_rg0; have e5 := i_le i_rg0 ox; rw [← i_0] at e1 e2 e3 e4 e5; first | (rw [e1] at h; exact h) | (rw [e2] at h; exact h) | (rw [e3] at h; exact h) | (rw [e4] at h; omega) | (rw [e5] at h; omega) | (rw [e2] at h; omega) | (rw [e3] at h; omega) | (rw [GT.gt, e3] at h; exact h) | (rw [GE.ge, e5] at h; omega) | (rw [GT.gt, e3] at h; omega))
      exact hP _ _ _ _ _ _ hq H ls locs cells slots hRp hl hoL oS hlo h1 h2 h0
  · exact hq.elim
theorem st_ieq {own : String} {bytes : ByteArray} {ret : Option FieldType} {nm : String} {nL lv pc n : Nat} {off : Int} {t : Nat} (hd : decode bytes pc = .ok (.if_icmp .eq off, 3)) (ht : (pc : Int) + off = (t : Int)) (hn : pc + 3 = n) : SOK own bytes ret nm nL lv pc (x_ieq t n) := by
  intro g p l e R s m args below meth c call Q n0 hC hO P' hP L st u cc ss hq H ls locs cells slots hRp hl hoL hoS hlo h1 h2 h0
  obtain ⟨hx, hb, hr, hml, hown, hts, hlk, hnm, hK, hfr, hlw⟩ := hC
  subst hn
  unfold x_ieq at hq
  split at hq
  · rename_i y x st'
    obtain ⟨oy, oS⟩ := aok_cons.mp hoS
    obtain ⟨ox, oS⟩ := aok_cons.mp oS
    have key : ∀ (c : Prop) [Decidable c] (A B : Prop), (if c then A else B) → (c → A) ∧ (¬ c → B) := fun c _ A B h => ⟨fun q => by rw [if_pos q] at h; exact h, fun q => by rw [if_neg q] at h; exact h⟩
    have hk := key _ _ _ hq
    refine lv_icmp_eq hx hb hd ht (fun h => ?_) (fun h => ?_)
    · have hq := hk.1 (by have e1 := i_eq ox oy; have e2 := i_lt ox oy; have e3 := i_lt oy ox; have e4 := i_le ox oy; have e5 := i_le oy ox; first | (rw [e1] at h; exact h) | (rw [e2] at h; exact h) | (rw [e3] at h; exact h) | (rw [e4] at h; omega) | (rw [e5] at h; omega) | (rw [e2] at h; omega) | (rw [e3] at h; omega) | (rw [GT.gt, e3] at h; exact h) | (rw [GE.ge, e5] at h; omega) | (rw [GT.gt, e3] at h; omega))
      exact hP _ _ _ _ _ _ hq H ls locs cells slots hRp hl hoL oS hlo h1 h2 h0
    · have hq := hk.2 (by have e1 := i_eq ox oy; have e2 := i_lt ox oy; have e3 := i_lt oy ox; have e4 := i_le ox oy; have e5 := i_le oy ox; first | (rw [e1] at h; exact h) | (rw [e2] at h; exact h) | (rw [e3] at h; exact h) | (rw [e4] at h; omega) | (rw [e5] at h; omega) | (rw [e2] at h; omega) | (rw [e3] at h; omega) | (rw [GT.gt, e3] at h; exact h) | (rw [GE.ge, e5] at h; omega) | (rw [GT.gt, e3] at h; omega))
      exact hP _ _ _ _ _ _ hq H ls locs cells slots hRp hl hoL oS hlo h1 h2 h0
  · exact hq.elim
theorem st_ifne {own : String} {bytes : ByteArray} {ret : Option FieldType} {nm : String} {nL lv pc n : Nat} {off : Int} {t : Nat} (hd : decode bytes pc = .ok (.ifCond .ne off, 3)) (ht : (pc : Int) + off = (t : Int)) (hn : pc + 3 = n) : SOK own bytes ret nm nL lv pc (x_ifne t n) := by
  intro g p l e R s m args below meth c call Q n0 hC hO P' hP L st u cc ss hq H ls locs cells slots hRp hl hoL hoS hlo h1 h2 h0
  obtain ⟨hx, hb, hr, hml, hown, hts, hlk, hnm, hK, hfr, hlw⟩ := hC
  subst hn
  unfold x_ifne at hq
  split at hq
  · rename_i x st'
    obtain ⟨ox, oS⟩ := aok_cons.mp hoS
    have key : ∀ (c : Prop) [Decidable c] (A B : Prop), (if c then A else B) → (c → A) ∧ (¬ c → B) := fun c _ A B h => ⟨fun q => by rw [if_pos q] at h; exact h, fun q => by rw [if_neg q] at h; exact h⟩
    have hk := key _ _ _ hq
    refine lv_if_ne hx hb hd ht (fun h => ?_) (fun h => ?_)
    · have hq := hk.2 (by have e1 := i_eq ox i_rg0; have e2 := i_lt ox i_rg0; have e3 := i_lt i_rg0 ox; have e4 := i_le ox i_rg0; have e5 := i_le i_rg0 ox; rw [← i_0] at e1 e2 e3 e4 e5; first | (rw [e1] at h; exact h) | (rw [e2] at h; exact h) | (rw [e3] at h; exact h) | (rw [e4] at h; omega) | (rw [e5] at h; omega) | (rw [e2] at h; omega) | (rw [e3] at h; omega) | (rw [GT.gt, e3] at h; exact h) | (rw [GE.ge, e5] at h; omega) | (rw [GT.gt, e3] at h; omega))
      exact hP _ _ _ _ _ _ hq H ls locs cells slots hRp hl hoL oS hlo h1 h2 h0
    · have hq := hk.1 (by have e1 := i_eq ox i_rg0; have e2 := i_lt ox i_rg0; have e3 := i_lt i_rg0 ox; have e4 := i_le ox i_rg0; have e5 := i_le i_rg0 ox; rw [← i_0] at e1 e2 e3 e4 e5; first | (rw [e1] at h; exact h) | (rw [e2] at h; exact h) | (rw [e3] at h; exact h) | (rw [e4] at h; omega) | (rw [e5] at h; omega) | (rw [e2] at h; omega) | (rw [e3] at h; omega) | (rw [GT.gt, e3] at h; exact h) | (rw [GE.ge, e5] at h; omega) | (rw [GT.gt, e3] at h; omega))
      exact hP _ _ _ _ _ _ hq H ls locs cells slots hRp hl hoL oS hlo h1 h2 h0
  · exact hq.elim
theorem st_ine {own : String} {bytes : ByteArray} {ret : Option FieldType} {nm : String} {nL lv pc n : Nat} {off : Int} {t : Nat} (hd : decode bytes pc = .ok (.if_icmp .ne off, 3)) (ht : (pc : Int) + off = (t : Int)) (hn : pc + 3 = n) : SOK own bytes ret nm nL lv pc (x_ine t n) := by
  intro g p l e R s m args below meth c call Q n0 hC hO P' hP L st u cc ss hq H ls locs cells slots hRp hl hoL hoS hlo h1 h2 h0
  obtain ⟨hx, hb, hr, hml, hown, hts, hlk, hnm, hK, hfr, hlw⟩ := hC
  subst hn
  unfold x_ine at hq
  split at hq
  · rename_i y x st'
    obtain ⟨oy, oS⟩ := aok_cons.mp hoS
    obtain ⟨ox, oS⟩ := aok_cons.mp oS
    have key : ∀ (c : Prop) [Decidable c] (A B : Prop), (if c then A else B) → (c → A) ∧ (¬ c → B) := fun c _ A B h => ⟨fun q => by rw [if_pos q] at h; exact h, fun q => by rw [if_neg q] at h; exact h⟩
    have hk := key _ _ _ hq
    refine lv_icmp_ne hx hb hd ht (fun h => ?_) (fun h => ?_)
    · have hq := hk.2 (by have e1 := i_eq ox oy; have e2 := i_lt ox oy; have e3 := i_lt oy ox; have e4 := i_le ox oy; have e5 := i_le oy ox; first | (rw [e1] at h; exact h) | (rw [e2] at h; exact h) | (rw [e3] at h; exact h) | (rw [e4] at h; omega) | (rw [e5] at h; omega) | (rw [e2] at h; omega) | (rw [e3] at h; omega) | (rw [GT.gt, e3] at h; exact h) | (rw [GE.ge, e5] at h; omega) | (rw [GT.gt, e3] at h; omega))
      exact hP _ _ _ _ _ _ hq H ls locs cells slots hRp hl hoL oS hlo h1 h2 h0
    · have hq := hk.1 (by have e1 := i_eq ox oy; have e2 := i_lt ox oy; have e3 := i_lt oy ox; have e4 := i_le ox oy; have e5 := i_le oy ox; first | (rw [e1] at h; exact h) | (rw [e2] at h; exact h) | (rw [e3] at h; exact h) | (rw [e4] at h; omega) | (rw [e5] at h; omega) | (rw [e2] at h; omega) | (rw [e3] at h; omega) | (rw [GT.gt, e3] at h; exact h) | (rw [GE.ge, e5] at h; omega) | (rw [GT.gt, e3] at h; omega))
      exact hP _ _ _ _ _ _ hq H ls locs cells slots hRp hl hoL oS hlo h1 h2 h0
  · exact hq.elim
theorem st_iflt {own : String} {bytes : ByteArray} {ret : Option FieldType} {nm : String} {nL lv pc n : Nat} {off : Int} {t : Nat} (hd : decode bytes pc = .ok (.ifCond .lt off, 3)) (ht : (pc : Int) + off = (t : Int)) (hn : pc + 3 = n) : SOK own bytes ret nm nL lv pc (x_iflt t n) := by
  intro g p l e R s m args below meth c call Q n0 hC hO P' hP L st u cc ss hq H ls locs cells slots hRp hl hoL hoS hlo h1 h2 h0
  obtain ⟨hx, hb, hr, hml, hown, hts, hlk, hnm, hK, hfr, hlw⟩ := hC
  subst hn
  unfold x_iflt at hq
  split at hq
  · rename_i x st'
    obtain ⟨ox, oS⟩ := aok_cons.mp hoS
    have key : ∀ (c : Prop) [Decidable c] (A B : Prop), (if c then A else B) → (c → A) ∧ (¬ c → B) := fun c _ A B h => ⟨fun q => by rw [if_pos q] at h; exact h, fun q => by rw [if_neg q] at h; exact h⟩
    have hk := key _ _ _ hq
    refine lv_if_lt hx hb hd ht (fun h => ?_) (fun h => ?_)
    · have hq := hk.1 (by have e1 := i_eq ox i_rg0; have e2 := i_lt ox i_rg0; have e3 := i_lt i_rg0 ox; have e4 := i_le ox i_rg0; have e5 := i_le i_rg0 ox; rw [← i_0] at e1 e2 e3 e4 e5; first | (rw [e1] at h; exact h) | (rw [e2] at h; exact h) | (rw [e3] at h; exact h) | (rw [e4] at h; omega) | (rw [e5] at h; omega) | (rw [e2] at h; omega) | (rw [e3] at h; omega) | (rw [GT.gt, e3] at h; exact h) | (rw [GE.ge, e5] at h; omega) | (rw [GT.gt, e3] at h; omega))
      exact hP _ _ _ _ _ _ hq H ls locs cells slots hRp hl hoL oS hlo h1 h2 h0
    · have hq := hk.2 (by have e1 := i_eq ox i_rg0; have e2 := i_lt ox i_rg0; have e3 := i_lt i_rg0 ox; have e4 := i_le ox i_rg0; have e5 := i_le i_rg0 ox; rw [← i_0] at e1 e2 e3 e4 e5; first | (rw [e1] at h; exact h) | (rw [e2] at h; exact h) | (rw [e3] at h; exact h) | (rw [e4] at h; omega) | (rw [e5] at h; omega) | (rw [e2] at h; omega) | (rw [e3] at h; omega) | (rw [GT.gt, e3] at h; exact h) | (rw [GE.ge, e5] at h; omega) | (rw [GT.gt, e3] at h; omega))
      exact hP _ _ _ _ _ _ hq H ls locs cells slots hRp hl hoL oS hlo h1 h2 h0
  · exact hq.elim
theorem st_ilt {own : String} {bytes : ByteArray} {ret : Option FieldType} {nm : String} {nL lv pc n : Nat} {off : Int} {t : Nat} (hd : decode bytes pc = .ok (.if_icmp .lt off, 3)) (ht : (pc : Int) + off = (t : Int)) (hn : pc + 3 = n) : SOK own bytes ret nm nL lv pc (x_ilt t n) := by
  intro g p l e R s m args below meth c call Q n0 hC hO P' hP L st u cc ss hq H ls locs cells slots hRp hl hoL hoS hlo h1 h2 h0
  obtain ⟨hx, hb, hr, hml, hown, hts, hlk, hnm, hK, hfr, hlw⟩ := hC
  subst hn
  unfold x_ilt at hq
  split at hq
  · rename_i y x st'
    obtain ⟨oy, oS⟩ := aok_cons.mp hoS
    obtain ⟨ox, oS⟩ := aok_cons.mp oS
    have key : ∀ (c : Prop) [Decidable c] (A B : Prop), (if c then A else B) → (c → A) ∧ (¬ c → B) := fun c _ A B h => ⟨fun q => by rw [if_pos q] at h; exact h, fun q => by rw [if_neg q] at h; exact h⟩
    have hk := key _ _ _ hq
    refine lv_icmp_lt hx hb hd ht (fun h => ?_) (fun h => ?_)
    · have hq := hk.1 (by have e1 := i_eq ox oy; have e2 := i_lt ox oy; have e3 := i_lt oy ox; have e4 := i_le ox oy; have e5 := i_le oy ox; first | (rw [e1] at h; exact h) | (rw [e2] at h; exact h) | (rw [e3] at h; exact h) | (rw [e4] at h; omega) | (rw [e5] at h; omega) | (rw [e2] at h; omega) | (rw [e3] at h; omega) | (rw [GT.gt, e3] at h; exact h) | (rw [GE.ge, e5] at h; omega) | (rw [GT.gt, e3] at h; omega))
      exact hP _ _ _ _ _ _ hq H ls locs cells slots hRp hl hoL oS hlo h1 h2 h0
    · have hq := hk.2 (by have e1 := i_eq ox oy; have e2 := i_lt ox oy; have e3 := i_lt oy ox; have e4 := i_le ox oy; have e5 := i_le oy ox; first | (rw [e1] at h; exact h) | (rw [e2] at h; exact h) | (rw [e3] at h; exact h) | (rw [e4] at h; omega) | (rw [e5] at h; omega) | (rw [e2] at h; omega) | (rw [e3] at h; omega) | (rw [GT.gt, e3] at h; exact h) | (rw [GE.ge, e5] at h; omega) | (rw [GT.gt, e3] at h; omega))
      exact hP _ _ _ _ _ _ hq H ls locs cells slots hRp hl hoL oS hlo h1 h2 h0
  · exact hq.elim
theorem st_ifge {own : String} {bytes : ByteArray} {ret : Option FieldType} {nm : String} {nL lv pc n : Nat} {off : Int} {t : Nat} (hd : decode bytes pc = .ok (.ifCond .ge off, 3)) (ht : (pc : Int) + off = (t : Int)) (hn : pc + 3 = n) : SOK own bytes ret nm nL lv pc (x_ifge t n) := by
  intro g p l e R s m args below meth c call Q n0 hC hO P' hP L st u cc ss hq H ls locs cells slots hRp hl hoL hoS hlo h1 h2 h0
  obtain ⟨hx, hb, hr, hml, hown, hts, hlk, hnm, hK, hfr, hlw⟩ := hC
  subst hn
  unfold x_ifge at hq
  split at hq
  · rename_i x st'
    obtain ⟨ox, oS⟩ := aok_cons.mp hoS
    have key : ∀ (c : Prop) [Decidable c] (A B : Prop), (if c then A else B) → (c → A) ∧ (¬ c → B) := fun c _ A B h => ⟨fun q => by rw [if_pos q] at h; exact h, fun q => by rw [if_neg q] at h; exact h⟩
    have hk := key _ _ _ hq
    refine lv_if_ge hx hb hd ht (fun h => ?_) (fun h => ?_)
    · have hq := hk.2 (by have e1 := i_eq ox i_rg0; have e2 := i_lt ox i_rg0; have e3 := i_lt i_rg0 ox; have e4 := i_le ox i_rg0; have e5 := i_le i_rg0 ox; rw [← i_0] at e1 e2 e3 e4 e5; first | (rw [e1] at h; exact h) | (rw [e2] at h; exact h) | (rw [e3] at h; exact h) | (rw [e4] at h; omega) | (rw [e5] at h; omega) | (rw [e2] at h; omega) | (rw [e3] at h; omega) | (rw [GT.gt, e3] at h; exact h) | (rw [GE.ge, e5] at h; omega) | (rw [GT.gt, e3] at h; omega))
      exact hP _ _ _ _ _ _ hq H ls locs cells slots hRp hl hoL oS hlo h1 h2 h0
    · have hq := hk.1 (by have e1 := i_eq ox i_rg0; have e2 := i_lt ox i_rg0; have e3 := i_lt i_rg0 ox; have e4 := i_le ox i_rg0; have e5 := i_le i_rg0 ox; rw [← i_0] at e1 e2 e3 e4 e5; first | (rw [e1] at h; exact h) | (rw [e2] at h; exact h) | (rw [e3] at h; exact h) | (rw [e4] at h; omega) | (rw [e5] at h; omega) | (rw [e2] at h; omega) | (rw [e3] at h; omega) | (rw [GT.gt, e3] at h; exact h) | (rw [GE.ge, e5] at h; omega) | (rw [GT.gt, e3] at h; omega))
      exact hP _ _ _ _ _ _ hq H ls locs cells slots hRp hl hoL oS hlo h1 h2 h0
  · exact hq.elim
theorem st_ige {own : String} {bytes : ByteArray} {ret : Option FieldType} {nm : String} {nL lv pc n : Nat} {off : Int} {t : Nat} (hd : decode bytes pc = .ok (.if_icmp .ge off, 3)) (ht : (pc : Int) + off = (t : Int)) (hn : pc + 3 = n) : SOK own bytes ret nm nL lv pc (x_ige t n) := by
  intro g p l e R s m args below meth c call Q n0 hC hO P' hP L st u cc ss hq H ls locs cells slots hRp hl hoL hoS hlo h1 h2 h0
  obtain ⟨hx, hb, hr, hml, hown, hts, hlk, hnm, hK, hfr, hlw⟩ := hC
  subst hn
  unfold x_ige at hq
  split at hq
  · rename_i y x st'
    obtain ⟨oy, oS⟩ := aok_cons.mp hoS
    obtain ⟨ox, oS⟩ := aok_cons.mp oS
    have key : ∀ (c : Prop) [Decidable c] (A B : Prop), (if c then A else B) → (c → A) ∧ (¬ c → B) := fun c _ A B h => ⟨fun q => by rw [if_pos q] at h; exact h, fun q => by rw [if_neg q] at h; exact h⟩
    have hk := key _ _ _ hq
    refine lv_icmp_ge hx hb hd ht (fun h => ?_) (fun h => ?_)
    · have hq := hk.2 (by have e1 := i_eq ox oy; have e2 := i_lt ox oy; have e3 := i_lt oy ox; have e4 := i_le ox oy; have e5 := i_le oy ox; first | (rw [e1] at h; exact h) | (rw [e2] at h; exact h) | (rw [e3] at h; exact h) | (rw [e4] at h; omega) | (rw [e5] at h; omega) | (rw [e2] at h; omega) | (rw [e3] at h; omega) | (rw [GT.gt, e3] at h; exact h) | (rw [GE.ge, e5] at h; omega) | (rw [GT.gt, e3] at h; omega))
      exact hP _ _ _ _ _ _ hq H ls locs cells slots hRp hl hoL oS hlo h1 h2 h0
    · have hq := hk.1 (by have e1 := i_eq ox oy; have e2 := i_lt ox oy; have e3 := i_lt oy ox; have e4 := i_le ox oy; have e5 := i_le oy ox; first | (rw [e1] at h; exact h) | (rw [e2] at h; exact h) | (rw [e3] at h; exact h) | (rw [e4] at h; omega) | (rw [e5] at h; omega) | (rw [e2] at h; omega) | (rw [e3] at h; omega) | (rw [GT.gt, e3] at h; exact h) | (rw [GE.ge, e5] at h; omega) | (rw [GT.gt, e3] at h; omega))
      exact hP _ _ _ _ _ _ hq H ls locs cells slots hRp hl hoL oS hlo h1 h2 h0
  · exact hq.elim
theorem st_ifgt {own : String} {bytes : ByteArray} {ret : Option FieldType} {nm : String} {nL lv pc n : Nat} {off : Int} {t : Nat} (hd : decode bytes pc = .ok (.ifCond .gt off, 3)) (ht : (pc : Int) + off = (t : Int)) (hn : pc + 3 = n) : SOK own bytes ret nm nL lv pc (x_ifgt t n) := by
  intro g p l e R s m args below meth c call Q n0 hC hO P' hP L st u cc ss hq H ls locs cells slots hRp hl hoL hoS hlo h1 h2 h0
  obtain ⟨hx, hb, hr, hml, hown, hts, hlk, hnm, hK, hfr, hlw⟩ := hC
  subst hn
  unfold x_ifgt at hq
  split at hq
  · rename_i x st'
    obtain ⟨ox, oS⟩ := aok_cons.mp hoS
    have key : ∀ (c : Prop) [Decidable c] (A B : Prop), (if c then A else B) → (c → A) ∧ (¬ c → B) := fun c _ A B h => ⟨fun q => by rw [if_pos q] at h; exact h, fun q => by rw [if_neg q] at h; exact h⟩
    have hk := key _ _ _ hq
    refine lv_if_gt hx hb hd ht (fun h => ?_) (fun h => ?_)
    · have hq := hk.1 (by have e1 := i_eq ox i_rg0; have e2 := i_lt ox i_rg0; have e3 := i_lt i_rg0 ox; have e4 := i_le ox i_rg0; have e5 := i_le i_rg0 ox; rw [← i_0] at e1 e2 e3 e4 e5; first | (rw [e1] at h; exact h) | (rw [e2] at h; exact h) | (rw [e3] at h; exact h) | (rw [e4] at h; omega) | (rw [e5] at h; omega) | (rw [e2] at h; omega) | (rw [e3] at h; omega) | (rw [GT.gt, e3] at h; exact h) | (rw [GE.ge, e5] at h; omega) | (rw [GT.gt, e3] at h; omega))
      exact hP _ _ _ _ _ _ hq H ls locs cells slots hRp hl hoL oS hlo h1 h2 h0
    · have hq := hk.2 (by have e1 := i_eq ox i_rg0; have e2 := i_lt ox i_rg0; have e3 := i_lt i_rg0 ox; have e4 := i_le ox i_rg0; have e5 := i_le i_rg0 ox; rw [← i_0] at e1 e2 e3 e4 e5; first | (rw [e1] at h; exact h) | (rw [e2] at h; exact h) | (rw [e3] at h; exact h) | (rw [e4] at h; omega) | (rw [e5] at h; omega) | (rw [e2] at h; omega) | (rw [e3] at h; omega) | (rw [GT.gt, e3] at h; exact h) | (rw [GE.ge, e5] at h; omega) | (rw [GT.gt, e3] at h; omega))
      exact hP _ _ _ _ _ _ hq H ls locs cells slots hRp hl hoL oS hlo h1 h2 h0
  · exact hq.elim
theorem st_igt {own : String} {bytes : ByteArray} {ret : Option FieldType} {nm : String} {nL lv pc n : Nat} {off : Int} {t : Nat} (hd : decode bytes pc = .ok (.if_icmp .gt off, 3)) (ht : (pc : Int) + off = (t : Int)) (hn : pc + 3 = n) : SOK own bytes ret nm nL lv pc (x_igt t n) := by
  intro g p l e R s m args below meth c call Q n0 hC hO P' hP L st u cc ss hq H ls locs cells slots hRp hl hoL hoS hlo h1 h2 h0
  obtain ⟨hx, hb, hr, hml, hown, hts, hlk, hnm, hK, hfr, hlw⟩ := hC
  subst hn
  unfold x_igt at hq
  split at hq
  · rename_i y x st'
    obtain ⟨oy, oS⟩ := aok_cons.mp hoS
    obtain ⟨ox, oS⟩ := aok_cons.mp oS
    have key : ∀ (c : Prop) [Decidable c] (A B : Prop), (if c then A else B) → (c → A) ∧ (¬ c → B) := fun c _ A B h => ⟨fun q => by rw [if_pos q] at h; exact h, fun q => by rw [if_neg q] at h; exact h⟩
    have hk := key _ _ _ hq
    refine lv_icmp_gt hx hb hd ht (fun h => ?_) (fun h => ?_)
    · have hq := hk.1 (by have e1 := i_eq ox oy; have e2 := i_lt ox oy; have e3 := i_lt oy ox; have e4 := i_le ox oy; have e5 := i_le oy ox; first | (rw [e1] at h; exact h) | (rw [e2] at h; exact h) | (rw [e3] at h; exact h) | (rw [e4] at h; omega) | (rw [e5] at h; omega) | (rw [e2] at h; omega) | (rw [e3] at h; omega) | (rw [GT.gt, e3] at h; exact h) | (rw [GE.ge, e5] at h; omega) | (rw [GT.gt, e3] at h; omega))
      exact hP _ _ _ _ _ _ hq H ls locs cells slots hRp hl hoL oS hlo h1 h2 h0
    · have hq := hk.2 (by have e1 := i_eq ox oy; have e2 := i_lt ox oy; have e3 := i_lt oy ox; have e4 := i_le ox oy; have e5 := i_le oy ox; first | (rw [e1] at h; exact h) | (rw [e2] at h; exact h) | (rw [e3] at h; exact h) | (rw [e4] at h; omega) | (rw [e5] at h; omega) | (rw [e2] at h; omega) | (rw [e3] at h; omega) | (rw [GT.gt, e3] at h; exact h) | (rw [GE.ge, e5] at h; omega) | (rw [GT.gt, e3] at h; omega))
      exact hP _ _ _ _ _ _ hq H ls locs cells slots hRp hl hoL oS hlo h1 h2 h0
  · exact hq.elim
theorem st_ifle {own : String} {bytes : ByteArray} {ret : Option FieldType} {nm : String} {nL lv pc n : Nat} {off : Int} {t : Nat} (hd : decode bytes pc = .ok (.ifCond .le off, 3)) (ht : (pc : Int) + off = (t : Int)) (hn : pc + 3 = n) : SOK own bytes ret nm nL lv pc (x_ifle t n) := by
  intro g p l e R s m args below meth c call Q n0 hC hO P' hP L st u cc ss hq H ls locs cells slots hRp hl hoL hoS hlo h1 h2 h0
  obtain ⟨hx, hb, hr, hml, hown, hts, hlk, hnm, hK, hfr, hlw⟩ := hC
  subst hn
  unfold x_ifle at hq
  split at hq
  · rename_i x st'
    obtain ⟨ox, oS⟩ := aok_cons.mp hoS
    have key : ∀ (c : Prop) [Decidable c] (A B : Prop), (if c then A else B) → (c → A) ∧ (¬ c → B) := fun c _ A B h => ⟨fun q => by rw [if_pos q] at h; exact h, fun q => by rw [if_neg q] at h; exact h⟩
    have hk := key _ _ _ hq
    refine lv_if_le hx hb hd ht (fun h => ?_) (fun h => ?_)
    · have hq := hk.2 (by have e1 := i_eq ox i_rg0; have e2 := i_lt ox i_rg0; have e3 := i_lt i_rg0 ox; have e4 := i_le ox i_rg0; have e5 := i_le i_rg0 ox; rw [← i_0] at e1 e2 e3 e4 e5; first | (rw [e1] at h; exact h) | (rw [e2] at h; exact h) | (rw [e3] at h; exact h) | (rw [e4] at h; omega) | (rw [e5] at h; omega) | (rw [e2] at h; omega) | (rw [e3] at h; omega) | (rw [GT.gt, e3] at h; exact h) | (rw [GE.ge, e5] at h; omega) | (rw [GT.gt, e3] at h; omega))
      exact hP _ _ _ _ _ _ hq H ls locs cells slots hRp hl hoL oS hlo h1 h2 h0
    · have hq := hk.1 (by have e1 := i_eq ox i_rg0; have e2 := i_lt ox i_rg0; have e3 := i_lt i_rg0 ox; have e4 := i_le ox i_rg0; have e5 := i_le i_rg0 ox; rw [← i_0] at e1 e2 e3 e4 e5; first | (rw [e1] at h; exact h) | (rw [e2] at h; exact h) | (rw [e3] at h; exact h) | (rw [e4] at h; omega) | (rw [e5] at h; omega) | (rw [e2] at h; omega) | (rw [e3] at h; omega) | (rw [GT.gt, e3] at h; exact h) | (rw [GE.ge, e5] at h; omega) | (rw [GT.gt, e3] at h; omega))
      exact hP _ _ _ _ _ _ hq H ls locs cells slots hRp hl hoL oS hlo h1 h2 h0
  · exact hq.elim
theorem st_ile {own : String} {bytes : ByteArray} {ret : Option FieldType} {nm : String} {nL lv pc n : Nat} {off : Int} {t : Nat} (hd : decode bytes pc = .ok (.if_icmp .le off, 3)) (ht : (pc : Int) + off = (t : Int)) (hn : pc + 3 = n) : SOK own bytes ret nm nL lv pc (x_ile t n) := by
  intro g p l e R s m args below meth c call Q n0 hC hO P' hP L st u cc ss hq H ls locs cells slots hRp hl hoL hoS hlo h1 h2 h0
  obtain ⟨hx, hb, hr, hml, hown, hts, hlk, hnm, hK, hfr, hlw⟩ := hC
  subst hn
  unfold x_ile at hq
  split at hq
  · rename_i y x st'
    obtain ⟨oy, oS⟩ := aok_cons.mp hoS
    obtain ⟨ox, oS⟩ := aok_cons.mp oS
    have key : ∀ (c : Prop) [Decidable c] (A B : Prop), (if c then A else B) → (c → A) ∧ (¬ c → B) := fun c _ A B h => ⟨fun q => by rw [if_pos q] at h; exact h, fun q => by rw [if_neg q] at h; exact h⟩
    have hk := key _ _ _ hq
    refine lv_icmp_le hx hb hd ht (fun h => ?_) (fun h => ?_)
    · have hq := hk.2 (by have e1 := i_eq ox oy; have e2 := i_lt ox oy; have e3 := i_lt oy ox; have e4 := i_le ox oy; have e5 := i_le oy ox; first | (rw [e1] at h; exact h) | (rw [e2] at h; exact h) | (rw [e3] at h; exact h) | (rw [e4] at h; omega) | (rw [e5] at h; omega) | (rw [e2] at h; omega) | (rw [e3] at h; omega) | (rw [GT.gt, e3] at h; exact h) | (rw [GE.ge, e5] at h; omega) | (rw [GT.gt, e3] at h; omega))
      exact hP _ _ _ _ _ _ hq H ls locs cells slots hRp hl hoL oS hlo h1 h2 h0
    · have hq := hk.1 (by have e1 := i_eq ox oy; have e2 := i_lt ox oy; have e3 := i_lt oy ox; have e4 := i_le ox oy; have e5 := i_le oy ox; first | (rw [e1] at h; exact h) | (rw [e2] at h; exact h) | (rw [e3] at h; exact h) | (rw [e4] at h; omega) | (rw [e5] at h; omega) | (rw [e2] at h; omega) | (rw [e3] at h; omega) | (rw [GT.gt, e3] at h; exact h) | (rw [GE.ge, e5] at h; omega) | (rw [GT.gt, e3] at h; omega))
      exact hP _ _ _ _ _ _ hq H ls locs cells slots hRp hl hoL oS hlo h1 h2 h0
  · exact hq.elim
theorem st_goto {own : String} {bytes : ByteArray} {ret : Option FieldType} {nm : String} {nL lv pc : Nat} {off : Int} {t : Nat} (hd : decode bytes pc = .ok (.goto off, 3)) (ht : (pc : Int) + off = (t : Int)) : SOK own bytes ret nm nL lv pc (x_goto t) := by
  intro g p l e R s m args below meth c call Q n0 hC hO P' hP L st u cc ss hq H ls locs cells slots hRp hl hoL hoS hlo h1 h2 h0
  obtain ⟨hx, hb, hr, hml, hown, hts, hlk, hnm, hK, hfr, hlw⟩ := hC
  exact lv_goto hx hb hd ht (hP _ _ _ _ _ _ hq H ls locs cells slots hRp hl hoL hoS hlo h1 h2 h0)
theorem st_dup {own : String} {bytes : ByteArray} {ret : Option FieldType} {nm : String} {nL lv pc n : Nat} (hd : decode bytes pc = .ok (.dup, 1)) (hn : pc + 1 = n) : SOK own bytes ret nm nL lv pc (x_dup n) := by
  intro g p l e R s m args below meth c call Q n0 hC hO P' hP L st u cc ss hq H ls locs cells slots hRp hl hoL hoS hlo h1 h2 h0
  obtain ⟨hx, hb, hr, hml, hown, hts, hlk, hnm, hK, hfr, hlw⟩ := hC
  subst hn
  unfold x_dup at hq
  split at hq
  · rename_i x st'
    obtain ⟨ox, oS⟩ := aok_cons.mp hoS
    exact lv_dup hx hb hd rfl (hP _ _ _ _ _ _ hq H ls locs cells slots hRp hl hoL (aok_cons.mpr ⟨ox, aok_cons.mpr ⟨ox, oS⟩⟩) hlo h1 h2 h0)
  · rename_i r st'
    obtain ⟨ox, oS⟩ := aok_cons.mp hoS
    exact lv_dup hx hb hd (by cases r <;> rfl) (hP _ _ _ _ _ _ hq H ls locs cells slots hRp hl hoL (aok_cons.mpr ⟨ox, aok_cons.mpr ⟨ox, oS⟩⟩) hlo h1 h2 h0)
  · exact hq.elim
theorem st_dup2 {own : String} {bytes : ByteArray} {ret : Option FieldType} {nm : String} {nL lv pc n : Nat} (hd : decode bytes pc = .ok (.dup2, 1)) (hn : pc + 1 = n) : SOK own bytes ret nm nL lv pc (x_dup2 n) := by
  intro g p l e R s m args below meth c call Q n0 hC hO P' hP L st u cc ss hq H ls locs cells slots hRp hl hoL hoS hlo h1 h2 h0
  obtain ⟨hx, hb, hr, hml, hown, hts, hlk, hnm, hK, hfr, hlw⟩ := hC
  subst hn
  unfold x_dup2 at hq
  split at hq
  · rename_i x r st'
    obtain ⟨ox, oS⟩ := aok_cons.mp hoS
    obtain ⟨or, oS⟩ := aok_cons.mp oS
    exact lv_dup2_11 hx hb hd rfl (by cases r <;> rfl) (hP _ _ _ _ _ _ hq H ls locs cells slots hRp hl hoL (aok_cons.mpr ⟨ox, aok_cons.mpr ⟨or, aok_cons.mpr ⟨ox, aok_cons.mpr ⟨or, oS⟩⟩⟩⟩) hlo h1 h2 h0)
  · exact hq.elim
theorem st_pop {own : String} {bytes : ByteArray} {ret : Option FieldType} {nm : String} {nL lv pc n : Nat} (hd : decode bytes pc = .ok (.pop, 1)) (hn : pc + 1 = n) : SOK own bytes ret nm nL lv pc (x_pop n) := by
  intro g p l e R s m args below meth c call Q n0 hC hO P' hP L st u cc ss hq H ls locs cells slots hRp hl hoL hoS hlo h1 h2 h0
  obtain ⟨hx, hb, hr, hml, hown, hts, hlk, hnm, hK, hfr, hlw⟩ := hC
  subst hn
  unfold x_pop at hq
  split at hq
  · rename_i x st'
    obtain ⟨ox, oS⟩ := aok_cons.mp hoS
    exact lv_pop hx hb hd rfl (hP _ _ _ _ _ _ hq H ls locs cells slots hRp hl hoL oS hlo h1 h2 h0)
  · exact hq.elim
theorem st_oini {own : String} {bytes : ByteArray} {ret : Option FieldType} {nm : String} {nL lv pc n : Nat} {idx : Nat} (hd : decode bytes pc = .ok (.invokespecial idx, 3)) (hn : pc + 3 = n) (hlv : 1 ≤ lv) (w1 : Cond.methodLink own idx Lib.objectInit ∈ lw_g) (w2 : Cond.instanceMethod Lib.objectInit ∈ lw_g) (w3 : Cond.code Lib.objectInit ⟨#[0xb1]⟩ 1 none ∈ lw_g) : SOK own bytes ret nm nL lv pc (x_oini n) := by
  intro g p l e R s m args below meth c call Q n0 hC hO P' hP L st u cc ss hq H ls locs cells slots hRp hl hoL hoS hlo h1 h2 h0
  obtain ⟨hx, hb, hr, hml, hown, hts, hlk, hnm, hK, hfr, hlw⟩ := hC
  subst hn
  unfold x_oini at hq
  split at hq
  · rename_i a st'
    obtain ⟨ox, oS⟩ := aok_cons.mp hoS
    obtain ⟨hlen, hq⟩ := z_leno hq
    have hcs := cat_sum g st'
    exact W.objInit hx hb hown (hts _ w1) (hts _ w2) (hts _ w3) rfl (hl.2.1.trans hml.symm) rfl hd (by omega) (by show 2 * 0 + _ + 12 ≤ _; omega) (hP _ _ _ _ _ _ hq H ls locs cells slots hRp hl hoL oS hlo h1 h2 h0)
  · exact hq.elim
theorem st_fraw {own : String} {bytes : ByteArray} {ret : Option FieldType} {nm : String} {nL lv pc n : Nat} {idx : Nat} (hd : decode bytes pc = .ok (.invokestatic idx, 3)) (hn : pc + 3 = n) (hlv : 1 ≤ lv) (w1 : Cond.methodLink own idx ⟨"java/lang/Float", "floatToRawIntBits", "(F)I"⟩ ∈ lw_g) (w2 : Cond.native ⟨"java/lang/Float", "floatToRawIntBits", "(F)I"⟩ ∈ lw_g) (w3 : Cond.static ⟨"java/lang/Float", "floatToRawIntBits", "(F)I"⟩ ∈ lw_g) (w4 : Cond.initialized "java/lang/Float" ∈ lw_g) : SOK own bytes ret nm nL lv pc (x_fraw n) := by
  intro g p l e R s m args below meth c call Q n0 hC hO P' hP L st u cc ss hq H ls locs cells slots hRp hl hoL hoS hlo h1 h2 h0
  obtain ⟨hx, hb, hr, hml, hown, hts, hlk, hnm, hK, hfr, hlw⟩ := hC
  subst hn
  unfold x_fraw at hq
  split at hq
  · rename_i f st'
    obtain ⟨ox, oS⟩ := aok_cons.mp hoS
    obtain ⟨hlen, hq⟩ := z_leno hq
    have hcs := cat_sum g st'
    have hk := hP _ _ _ _ _ _ hq H ls locs cells slots hRp hl hoL (aok_cons.mpr ⟨i_of32 _, oS⟩) hlo h1 h2 h0
    rw [List.map_cons, show ∀ z : Int32, av g (.inl z.toInt) = .int z from fun z => congrArg Value.int (Int32.ofInt_toInt z)] at hk
    exact vn_f2i hx hb (hml.trans hl.2.1.symm) hown (hts _ w1) (hts _ w2) (hts _ w3) (hts _ w4) (by omega) (by omega) hd hk
  · exact hq.elim
theorem st_draw {own : String} {bytes : ByteArray} {ret : Option FieldType} {nm : String} {nL lv pc n : Nat} {idx : Nat} (hd : decode bytes pc = .ok (.invokestatic idx, 3)) (hn : pc + 3 = n) (hlv : 1 ≤ lv) (w1 : Cond.methodLink own idx ⟨"java/lang/Double", "doubleToRawLongBits", "(D)J"⟩ ∈ lw_g) (w2 : Cond.native ⟨"java/lang/Double", "doubleToRawLongBits", "(D)J"⟩ ∈ lw_g) (w3 : Cond.static ⟨"java/lang/Double", "doubleToRawLongBits", "(D)J"⟩ ∈ lw_g) (w4 : Cond.initialized "java/lang/Double" ∈ lw_g) : SOK own bytes ret nm nL lv pc (x_draw n) := by
  intro g p l e R s m args below meth c call Q n0 hC hO P' hP L st u cc ss hq H ls locs cells slots hRp hl hoL hoS hlo h1 h2 h0
  obtain ⟨hx, hb, hr, hml, hown, hts, hlk, hnm, hK, hfr, hlw⟩ := hC
  subst hn
  unfold x_draw at hq
  split at hq
  · rename_i f st'
    obtain ⟨ox, oS⟩ := aok_cons.mp hoS
    obtain ⟨hlen, hq⟩ := z_leno hq
    have hcs := cat_sum g st'
    have hk := hP _ _ _ _ _ _ hq H ls locs cells slots hRp hl hoL (aok_cons.mpr ⟨l_of64 _, oS⟩) hlo h1 h2 h0
    rw [List.map_cons, show ∀ z : Int64, av g (vL z.toInt) = .long z from fun z => congrArg Value.long (Int64.ofInt_toInt z)] at hk
    exact vn_d2l hx hb (hml.trans hl.2.1.symm) hown (hts _ w1) (hts _ w2) (hts _ w3) (hts _ w4) (by omega) (by omega) hd hk
  · exact hq.elim
theorem st_iret {own : String} {bytes : ByteArray} {ret : Option FieldType} {nm : String} {nL lv pc : Nat} (hd : decode bytes pc = .ok (.ireturn, 1)) (hrt : ret = some .int) : SOK own bytes ret nm nL lv pc (x_iret) := by
  intro g p l e R s m args below meth c call Q n0 hC hO P' hP L st u cc ss hq H ls locs cells slots hRp hl hoL hoS hlo h1 h2 h0
  obtain ⟨hx, hb, hr, hml, hown, hts, hlk, hnm, hK, hfr, hlw⟩ := hC
  unfold x_iret at hq
  split at hq
  · rename_i x
    obtain ⟨ox, oS⟩ := aok_cons.mp hoS
    subst hrt
    refine W.widen (k := R.cells) (n := R.slots) (by omega) (by omega) ?_
    exact W.iret hx hb hr (fun t ht hW => ⟨some (.inl x), u, rfl, hq, by rw [ht]; exact hRp, (fun v hv => by cases hv; exact ox), h0⟩) hlo hd hlk
  · exact hq.elim
theorem st_zret {own : String} {bytes : ByteArray} {ret : Option FieldType} {nm : String} {nL lv pc : Nat} (hd : decode bytes pc = .ok (.ireturn, 1)) (hrt : ret = some .boolean) : SOK own bytes ret nm nL lv pc (x_zret) := by
  intro g p l e R s m args below meth c call Q n0 hC hO P' hP L st u cc ss hq H ls locs cells slots hRp hl hoL hoS hlo h1 h2 h0
  obtain ⟨hx, hb, hr, hml, hown, hts, hlk, hnm, hK, hfr, hlw⟩ := hC
  unfold x_zret at hq
  split at hq
  · rename_i x
    obtain ⟨ox, oS⟩ := aok_cons.mp hoS
    obtain ⟨h01, hq⟩ := z_0o hq
    subst hrt
    refine W.widen (k := R.cells) (n := R.slots) (by omega) (by omega) ?_
    exact W.zret (ty := .boolean) hx hb hr (by rcases h01 with h | h <;> subst h <;> rfl) (fun t ht hW => ⟨some (.inl x), u, rfl, hq, by rw [ht]; exact hRp, (fun v hv => by cases hv; exact ox), h0⟩) hlo hd hlk
  · exact hq.elim
theorem st_lret {own : String} {bytes : ByteArray} {ret : Option FieldType} {nm : String} {nL lv pc : Nat} (hd : decode bytes pc = .ok (.lreturn, 1)) (hrt : ret = some .long) : SOK own bytes ret nm nL lv pc (x_lret) := by
  intro g p l e R s m args below meth c call Q n0 hC hO P' hP L st u cc ss hq H ls locs cells slots hRp hl hoL hoS hlo h1 h2 h0
  obtain ⟨hx, hb, hr, hml, hown, hts, hlk, hnm, hK, hfr, hlw⟩ := hC
  unfold x_lret at hq
  split at hq
  · rename_i x
    obtain ⟨ox, oS⟩ := aok_cons.mp hoS
    subst hrt
    refine W.widen (k := R.cells) (n := R.slots) (by omega) (by omega) ?_
    exact W.lret hx hb hr (fun t ht hW => ⟨some (vL x), u, rfl, hq, by rw [ht]; exact hRp, (fun v hv => by cases hv; exact ox), h0⟩) hlo hd hlk
  · exact hq.elim
theorem st_fret {own : String} {bytes : ByteArray} {ret : Option FieldType} {nm : String} {nL lv pc : Nat} (hd : decode bytes pc = .ok (.freturn, 1)) (hrt : ret = some .float) : SOK own bytes ret nm nL lv pc (x_fret) := by
  intro g p l e R s m args below meth c call Q n0 hC hO P' hP L st u cc ss hq H ls locs cells slots hRp hl hoL hoS hlo h1 h2 h0
  obtain ⟨hx, hb, hr, hml, hown, hts, hlk, hnm, hK, hfr, hlw⟩ := hC
  unfold x_fret at hq
  split at hq
  · rename_i x
    obtain ⟨ox, oS⟩ := aok_cons.mp hoS
    subst hrt
    refine W.widen (k := R.cells) (n := R.slots) (by omega) (by omega) ?_
    exact W.fret hx hb hr (fun t ht hW => ⟨some (vF x), u, rfl, hq, by rw [ht]; exact hRp, (fun v hv => by cases hv; exact trivial), h0⟩) hlo hd hlk
  · exact hq.elim
theorem st_aret {own : String} {bytes : ByteArray} {ret : Option FieldType} {nm : String} {nL lv pc : Nat} {C : String} (hd : decode bytes pc = .ok (.areturn, 1)) (hrt : ret = some (.object C)) : SOK own bytes ret nm nL lv pc (x_aret) := by
  intro g p l e R s m args below meth c call Q n0 hC hO P' hP L st u cc ss hq H ls locs cells slots hRp hl hoL hoS hlo h1 h2 h0
  obtain ⟨hx, hb, hr, hml, hown, hts, hlk, hnm, hK, hfr, hlw⟩ := hC
  unfold x_aret at hq
  split at hq
  · rename_i x
    obtain ⟨ox, oS⟩ := aok_cons.mp hoS
    subst hrt
    refine W.widen (k := R.cells) (n := R.slots) (by omega) (by omega) ?_
    exact W.aret (rt := .object C) hx hb hr (Or.inl ⟨C, rfl⟩) (by cases x with | none => exact Or.inl rfl | some a => exact Or.inr ⟨_, rfl⟩) (fun t ht hW => ⟨some (.inr (.inl x)), u, rfl, hq, by rw [ht]; exact hRp, (fun v hv => by cases hv; exact ox), h0⟩) hlo hd hlk
  · exact hq.elim
theorem st_vret {own : String} {bytes : ByteArray} {ret : Option FieldType} {nm : String} {nL lv pc : Nat} (hd : decode bytes pc = .ok (.return_, 1)) (hrt : ret = none) : SOK own bytes ret nm nL lv pc (x_vret) := by
  intro g p l e R s m args below meth c call Q n0 hC hO P' hP L st u cc ss hq H ls locs cells slots hRp hl hoL hoS hlo h1 h2 h0
  obtain ⟨hx, hb, hr, hml, hown, hts, hlk, hnm, hK, hfr, hlw⟩ := hC
  unfold x_vret at hq
  split at hq
  · skip
    subst hrt
    refine W.widen (k := R.cells) (n := R.slots) (by omega) (by omega) ?_
    exact W.vret hx hb hr (fun t ht hW => ⟨none, u, rfl, hq, by rw [ht]; exact hRp, (fun v hv => by cases hv), h0⟩) hlo hd hlk
  · exact hq.elim
theorem st_bad {own : String} {bytes : ByteArray} {ret : Option FieldType} {nm : String} {nL lv pc : Nat} : SOK own bytes ret nm nL lv pc x_bad := by
  intro g p l e R s m args below meth c call Q n0 hC hO P' hP L st u cc ss hq
  exact False.elim hq
