/-! the smaller machine is sound: a call in it is a contract of the machine -/
theorem inil_len : ∀ (n : Nat) (as : List aV), (inil n as).length = n
  | 0, _ => by unfold inil; rfl
  | n + 1, [] => by unfold inil; rw [List.length_cons, inil_len n []]
  | n + 1, v :: vs => by
    unfold inil
    rw [List.length_cons]
    split
    · split
      · rfl
      · rw [List.length_cons, inil_len]
    · split
      · rfl
      · rw [List.length_cons, inil_len]
    · rw [inil_len]
theorem inil_args (g : aG) : ∀ (n : Nat) (as : List aV) (k i : Nat), ¬ lg (inil n as) i = vU → (k + i, av g (lg (inil n as) i)) ∈ lv_args k (as.map (av g))
  | 0, as, k, i, h => by unfold inil at h; exact absurd rfl h
  | n + 1, [], k, i, h => by
    exfalso
    have key : ∀ (n i : Nat), lg (inil n []) i = vU := by
      intro n
      induction n with
      | zero => intro i; unfold inil; rfl
      | succ n ih =>
        intro i
        unfold inil
        cases i with
        | zero => rfl
        | succ i => exact ih i
    exact h (key _ _)
  | n + 1, v :: vs, k, i, h => by
    have wd : ∀ (v : aV), wide v = true → ∀ (n' : Nat) (i : Nat), n = n' + 1 → ¬ lg (v :: vU :: inil n' vs) i = vU → (k + i, av g (lg (v :: vU :: inil n' vs) i)) ∈ lv_args k ((v :: vs).map (av g)) := by
      intro v hv n' i hn h
      rw [List.map_cons]
      unfold lv_args
      rw [av_cat, hv]
      cases i with
      | zero => exact List.mem_cons_self
      | succ i =>
        cases i with
        | zero => exact absurd rfl h
        | succ i =>
          have ih := inil_args g n' vs (k + 2) i h
          rw [show k + 2 + i = k + (i + 1 + 1) by omega] at ih
          exact List.mem_cons_of_mem _ ih
    have w0 : ∀ (v : aV), wide v = true → ∀ (i : Nat), ¬ lg [v] i = vU → (k + i, av g (lg [v] i)) ∈ lv_args k ((v :: vs).map (av g)) := by
      intro v hv i h
      cases i with
      | zero => exact List.mem_cons_self
      | succ i => exact absurd rfl h
    have nd : ∀ (v : aV), wide v = false → ∀ (i : Nat), ¬ lg (v :: inil n vs) i = vU → (k + i, av g (lg (v :: inil n vs) i)) ∈ lv_args k ((v :: vs).map (av g)) := by
      intro v hv i h
      rw [List.map_cons]
      unfold lv_args
      rw [av_cat, hv]
      cases i with
      | zero => exact List.mem_cons_self
      | succ i =>
        have ih := inil_args g n vs (k + 1) i h
        rw [show k + 1 + i = k + (i + 1) by omega] at ih
        exact List.mem_cons_of_mem _ ih
    rcases v with x | r | f | x | d | z
    · exact nd _ rfl i h
    · exact nd _ rfl i h
    · exact nd _ rfl i h
    · cases n with
      | zero => exact w0 _ rfl i h
      | succ n' => exact wd _ rfl n' i rfl h
    · cases n with
      | zero => exact w0 _ rfl i h
      | succ n' => exact wd _ rfl n' i rfl h
    · exact nd _ rfl i h
theorem wds_len (g : aG) : ∀ as : List aV, (lg_sl (as.map (av g))).length = wds as
  | [] => rfl
  | v :: l => by
    have ih := wds_len g l
    have hc := av_cat g v
    rw [List.map_cons]
    have e : lg_sl (av g v :: l.map (av g)) = (if (av g v).category = 2 then [.val (av g v), .second] else [.val (av g v)]) ++ lg_sl (l.map (av g)) := by
      unfold lg_sl
      rw [List.flatMap_cons]
    rw [e, List.length_append, ih, hc]
    rcases v with x | r | f | x | d | z
    · show 1 + wds l = wds l + 1; omega
    · show 1 + wds l = wds l + 1; omega
    · show 1 + wds l = wds l + 1; omega
    · show 2 + wds l = wds l + 2; omega
    · show 2 + wds l = wds l + 2; omega
    · show 1 + wds l = wds l + 1; omega
theorem inil_ok {n : Nat} : ∀ (k : Nat) (as : List aV), aok n as → aok n (inil k as)
  | 0, _, _ => by unfold inil; exact aok_nil
  | k + 1, [], h => by unfold inil; exact aok_cons.mpr ⟨trivial, inil_ok k [] aok_nil⟩
  | k + 1, v :: vs, h => by
    obtain ⟨hv, hvs⟩ := aok_cons.mp h
    unfold inil
    refine aok_cons.mpr ⟨hv, ?_⟩
    split
    · split
      · exact aok_nil
      · exact aok_cons.mpr ⟨trivial, inil_ok _ vs hvs⟩
    · split
      · exact aok_nil
      · exact aok_cons.mpr ⟨trivial, inil_ok _ vs hvs⟩
    · exact inil_ok k vs hvs
theorem Met.ofWF {l : Launch} {y : MethodName} {ws ws' : List Cond} {rm : Room} {Pc : Array Value → State → Prop} {Qc : Array Value → State → Outcome → State → Prop} {mc ms : Nat} {free : Addr → Prop} {cc : ByteArray} {maxL : Nat} {ret : Option FieldType}
    (hy : plainFor y = true) (hw : ws = Cond.code y cc maxL ret :: ws')
    (body : ∀ p e s m args below meth c s₁, BodyLoose p l y (headSpec ws rm) cc maxL ret e s m args below meth c s₁ → c.maxLocals = maxL → Pc args s →
      W p l e (headSpec ws rm).room s m args below meth c s.heap [] 0 0 (MQ below Qc args s mc ms free) (entryFrame m args maxL)) : Met l y ws rm Pc Qc mc ms free := by
  refine MetFree.of_bodySF (code := cc) (maxLocals := maxL) (ret := ret) hy ?_ ?_
  · intro args s m h hn
    obtain ⟨meth, c, h1, h2, h3, h4, h5, h6, -, -⟩ := Cond.code_spec hn (atoms_spec (ws := ws) h _ (by rw [hw]; exact List.mem_cons_self))
    exact ⟨meth, c, h1, h2, h3, h4, h5, h6⟩
  · intro p e s m args below meth c s₁ B hml hP _
    have hh0 : s₁.heap = s.heap := by rw [B.state]; rfl
    obtain ⟨t, a1, o, b1, b2, b3⟩ := body p e s m args below meth c s₁ B hml hP s₁ hh0 (Stand.of_body B)
    exact ⟨t, o, a1, b1, b2, ⟨b3.1, b3.2⟩⟩
/-- what is to be shown of a method -/
def MG (M : Nat) : Prop := plainFor (mY M) = true ∧ mmx M ≤ 21 ∧ ∀ pc, SOK (mY M).cls (mB M) (mRt M) (mY M).name (mmx M) (mlv M) pc (mcd M pc)
theorem a_closed {g : aG} {p : Program} {l : Launch} {e : Env} {R : Room} {s : State} {m : MethodId} {args : Array Value} {below : List Frame} {meth : Method} {c : Code} {call : aCall} {Q : aQ} {n0 : Nat} {own : String} {bytes : ByteArray} {ret : Option FieldType} {nm : String} {nL lv : Nat} {cd : Nat → aT}
    (hC : aCx g own bytes ret nm nL lv p R s m args meth c) (hO : aCO g l R call) (hS : ∀ pc, SOK own bytes ret nm nL lv pc (cd pc)) : z_cl call cd Q (aW g p l e R s m args below meth c nL n0 (aF g n0 Q below args s R)) := by
  refine ⟨fun P' hP pc L st u cc ss hq => hS pc g p l e R s m args below meth c call Q n0 hC hO P' hP L st u cc ss hq, fun pc L L' st u cc ss hw h => ?_⟩
  intro H ls locs cells slots hRp hl hoL hoS hlo h1 h2 h0
  exact h H ls locs cells slots hRp (hl.wk hw) (hoL.wk hw) hoS hlo h1 h2 h0
theorem a_sound (hG : ∀ M, MG M) (g : aG) (l : Launch) : ∀ (d M : Nat) (as : List aV) (u : aS) (Q : aQ), wpm d M as u Q → Met l (mY M) (mW M) ({ frames := d, cells := mk1 M, slots := mk2 M, locals := 40 * d }) (aPc g as u) (aQc g (nx u) Q) (mk1 M) (mk2 M) (aFr g)
  | 0, _, _, _, _, h => h.elim
  | d + 1, M, as, u, Q, h => by
    obtain ⟨h1, h2, h⟩ := z_2o h
    have h1 := Nat.le_of_ble_eq_true h1
    have h2 := Nat.le_of_ble_eq_true h2
    obtain ⟨g1, g3, g4⟩ := hG M
    refine Met.ofWF (cc := mB M) (maxL := mmx M) (ret := mRt M) g1 rfl ?_
    intro p e s m args below meth c s₁ B hml hv
    obtain ⟨rfl, hRp, hok, hK⟩ := hv
    have hts0 := atoms_spec (ws := mW M) B.pre
    have hC : aCx g (mY M).cls (mB M) (mRt M) (mY M).name (mmx M) (mlv M) p (headSpec (mW M) { frames := d + 1, cells := mk1 M, slots := mk2 M, locals := 40 * (d + 1) }).room s m (as.map (av g)).toArray meth c :=
      ⟨B.exec, B.bytes, B.returns, hml, findClass_of_methodNamed B.named, fun w hw => hts0 w (List.mem_cons_of_mem _ hw), B.notSynchronized, (name_of_methodNamed B.named B.method).1, hK, h1, by show 40 * mlv M ≤ 40 * (d + 1); omega⟩
    have hO : aCO g l (headSpec (mW M) { frames := d + 1, cells := mk1 M, slots := mk2 M, locals := 40 * (d + 1) }).room (wpm d) := fun M' as' u' Q' h' => by
      have hm := (hG M').2.1
      exact ⟨_, a_sound hG g l d M' as' u' Q' h', rfl, rfl, Nat.le_refl _, by show 8 + (mmx M' + 11) + 40 * d ≤ 40 * (d + 1); omega⟩
    have hw := h _ (a_closed (e := e) (below := below) (n0 := nx u) hC hO g4)
    rw [lg_entry_eq]
    have hle : (lg_sl (as.map (av g))).length ≤ mmx M := by rw [wds_len]; exact h2
    have hen := lv_entry (as.map (av g)) (n := mmx M) hle
    refine hw s.heap _ [] 0 0 hRp ⟨inil_len _ _, hen.1, hen.2.1, fun i hi => ?_⟩ (inil_ok _ _ hok) aok_nil (fun _ h => by cases h) (Nat.zero_add _) (Nat.zero_add _) (Nat.le_refl _)
    have := hen.2.2 _ (inil_args g (mmx M) as 0 i hi)
    rw [Nat.zero_add] at this
    exact this
