/-! am against the machine: what a state of am says of the heap -/
abbrev aG : Type := (Nat → ClassId) × (Nat → Nat → Nat) × (Nat → ClassId) × (Nat → Nat) × Heap × (Nat → Int32) × Nat
def gH (g : aG) : Heap := g.2.2.2.2.1
def rho (g : aG) (a : Nat) : Nat := if a < 8 then g.2.2.2.1 a else (gH g).size + (a - 8)
def ar (g : aG) (r : Option Nat) : Value := match r with
  | none => .null
  | some a => .ref (rho g a)
def av (g : aG) : aV → Value
  | .inl x => .int (Int32.ofInt x)
  | .inr (.inl r) => ar g r
  | .inr (.inr (.inl f)) => .float f
  | .inr (.inr (.inr (.inl x))) => .long (Int64.ofInt x)
  | .inr (.inr (.inr (.inr (.inl d)))) => .double d
  | .inr (.inr (.inr (.inr (.inr _)))) => .null
def i_rg (x : Int) : Prop := -2147483648 ≤ x ∧ x ≤ 2147483647
def l_rg (x : Int) : Prop := -9223372036854775808 ≤ x ∧ x ≤ 9223372036854775807
def vok (n : Nat) : aV → Prop
  | .inl x => i_rg x
  | .inr (.inl r) => ∀ a, r = some a → a < n
  | .inr (.inr (.inr (.inl x))) => l_rg x
  | _ => True
def aok (n : Nat) (l : List aV) : Prop := ∀ v ∈ l, vok n v
theorem aok_cons {n : Nat} {v : aV} {l : List aV} : aok n (v :: l) ↔ vok n v ∧ aok n l := by
  unfold aok
  simp
theorem aok_nil {n : Nat} : aok n [] := fun _ h => by cases h
theorem vok_mono {n k : Nat} (h : n ≤ k) {v : aV} (hv : vok n v) : vok k v := by
  unfold vok at hv ⊢
  split at hv
  · exact hv
  · intro a ha; exact Nat.lt_of_lt_of_le (hv a ha) h
  · exact hv
  · exact trivial
theorem aok_mono {n k : Nat} (h : n ≤ k) {l : List aV} (hl : aok n l) : aok k l := fun v hv => vok_mono h (hl v hv)
def fv (g : aG) (u : aS) (a : Nat) (ty : FieldType) (i : Int) : Value := match ty with
  | .int => .int (Int32.ofInt (hI u a i))
  | .boolean => .int (Int32.ofInt (hI u a i))
  | .float => .float (hF u a i)
  | _ => ar g (hR u a i)
def tyk (k : Nat) : Nat → FieldType := match k with
  | 0 => tyX0
  | 1 => tyX1
  | 2 => tyX2
  | 3 => tyX3
  | 4 => tyX4
  | 5 => tyX5
  | 6 => tyX6
  | 7 => tyX7
  | _ => tyX8
def ety (k : Nat) : FieldType := match k with
  | 20 => .int
  | 21 => .float
  | 22 => .boolean
  | 23 => .object "TapeHouse$Track"
  | 24 => .object "TapeHouse$Rack"
  | 25 => .object "TapeHouse$Tape"
  | 26 => .object "TapeHouse$Span"
  | 27 => .array .int
  | _ => .array .float
abbrev vwC : List vw_C := [(RX0, TX0, 5), (RX1, TX1, 8), (RX2, TX2, 3), (RX3, TX3, 7), (RX4, TX4, 3), (RX5, TX5, 2), (RX6, TX6, 7), (RX7, TX7, 6), (RX8, TX8, 24)]
def tyL (g : aG) : List (ClassId × FieldType) := [(g.2.2.1 20, .int), (g.2.2.1 21, .float), (g.2.2.1 22, .boolean), (g.2.2.1 23, .object "TapeHouse$Track"), (g.2.2.1 24, .object "TapeHouse$Rack"), (g.2.2.1 25, .object "TapeHouse$Tape"), (g.2.2.1 26, .object "TapeHouse$Span"), (g.2.2.1 27, .array .int), (g.2.2.1 28, .array .float)]
/-- the cell at an address of am -/
def ck (g : aG) (u : aS) (H : Heap) (a : Nat) : Prop :=
  if (kd a).1 < 9 then t_OB (rho g a) (g.1 (kd a).1) (kd a).2 (g.2.1 (kd a).1) H (fun f => fv g u a (tyk (kd a).1 f) f)
  else if 20 ≤ (kd a).1 ∧ (kd a).1 ≤ 28 then H[rho g a]? = some (arrV (g.2.2.1 (kd a).1) (kd a).2 (fun j => fv g u a (ety (kd a).1) j)) else True
def aRep (g : aG) (u : aS) (H : Heap) : Prop :=
  (8 ≤ nx u ∧ H.size = (gH g).size + (nx u - 8)) ∧ (∀ a, 8 ≤ a → a < nx u → ck g u H a) ∧ (∀ q, q < (gH g).size → H[q]? = (gH g)[q]?) ∧ (∀ a i, i_rg (hI u a i)) ∧ (∀ a i r, hR u a i = some r → r < nx u) ∧
  (∀ a, nx u ≤ a → ∀ i, hI u a i = 0 ∧ hF u a i = 0 ∧ hR u a i = none) ∧ (hI u 0 (-1) = g.2.2.2.2.2.2 ∧ ∀ j : Nat, j < g.2.2.2.2.2.2 → hI u 0 j = (g.2.2.2.2.2.1 j).toInt)
def nestWord : Cond → Bool
  | .fieldLinkNest .. => true
  | .methodLinkNest .. => true
  | _ => false
def lw_g : List Cond := lw_tbl.filter goodWord
/-- the rows of rows, and of objects, that can be made -/
def aoS (s : State) : Prop := (va_AO "TapeHouse$Track" s ∧ va_AO "TapeHouse$Rack" s ∧ va_AO "TapeHouse$Tape" s ∧ va_AO "TapeHouse$Span" s) ∧ (Cond.arrayOver (.array .int)).before #[] s = true ∧ (Cond.arrayOver (.array .float)).before #[] s = true
theorem aoS.moved {u U : State} (hvm : u.vm.Alike U.vm) (h : aoS u) : aoS U := ⟨⟨va_AO.moved hvm h.1.1, va_AO.moved hvm h.1.2.1, va_AO.moved hvm h.1.2.2.1, va_AO.moved hvm h.1.2.2.2⟩, Jvm.Stand.arrayOver_alikeB hvm h.2.1, Jvm.Stand.arrayOver_alikeB hvm h.2.2⟩
def aFr (g : aG) : Addr → Prop := fun q => (gH g).size ≤ q
/-- the written words: house tone put fade gain shift shut -/
def lenJ : List Nat := [5, 4, 3, 4, 4, 5, 4]
def bytJ : List (List Int32) := [[104, 111, 117, 115, 101], [116, 111, 110, 101], [112, 117, 116], [102, 97, 100, 101], [103, 97, 105, 110], [115, 104, 105, 102, 116], [115, 104, 117, 116]]
def skI : Nat → Nat
  | 1 => 79
  | 2 => 85
  | 3 => 87
  | 4 => 89
  | 5 => 91
  | 6 => 93
  | _ => 95
def skT : Nat → String
  | 1 => "house"
  | 2 => "tone"
  | 3 => "put"
  | 4 => "fade"
  | 5 => "gain"
  | 6 => "shift"
  | _ => "shut"
def strS (g : aG) (s : State) : Prop :=
  (∀ j, 1 ≤ j → j ≤ 7 → vk_R RX1 (skI j) (skT j) (g.2.2.2.1 j) s) ∧ vk_S 7 lenJ bytJ (fun i => g.2.2.2.1 (i + 1)) (fun i => g.2.2.2.1 (i + 11)) (aFr g) s (gH g) ∧ va_Z "java/lang/String" "COMPACT_STRINGS" "Z" (.int 1) (aFr g) s (gH g) ∧
  ∃ v, va_Z "jdk/internal/util/Preconditions" "SIOOBE_FORMATTER" "Ljava/util/function/BiFunction;" v (aFr g) s (gH g) ∧ (v = .null ∨ ∃ a, v = .ref a)
theorem strS.warm {g : aG} {s U : State} (h : strS g s) (hW : s.WarmedH U.vm) : strS g U := by
  obtain ⟨h1, h2, h3, v, h4, h5⟩ := h
  exact ⟨fun j a b => (h1 j a b).warm hW, h2.moved hW.alike, h3.moved hW.alike, v, h4.moved hW.alike, h5⟩
theorem strS.same {g : aG} {u U : State} (h : strS g u) (hv : u.vm = U.vm) : strS g U := by
  have hal : u.vm.Alike U.vm := by rw [hv]; exact Vm.Alike.refl _
  obtain ⟨h1, h2, h3, v, h4, h5⟩ := h
  exact ⟨fun j a b => (h1 j a b).same hv.symm, h2.moved hal, h3.moved hal, v, h4.moved hal, h5⟩
/-- what stays true of the tables, and of what was there ahead of the law -/
def knS (g : aG) (s : State) : Prop :=
  va_K (g.1, g.2.1) vwC (tyL g) s ∧ (∀ w ∈ lw_tbl, nestWord w = true → va_Nw w s) ∧ (va_X (g.2.2.2.1 0) g.2.2.2.2.2.2 g.2.2.2.2.2.1 s (gH g) ∧ g.2.2.2.1 0 < (gH g).size) ∧ aoS s ∧ strS g s
theorem knS.warm {g : aG} {s U : State} (h : knS g s) (hW : s.WarmedH U.vm) : knS g U := by
  refine ⟨va_K.moved hW.alike h.1, fun w hw hn => ?_, ⟨h.2.2.1.1.moved hW.alike, h.2.2.1.2⟩, h.2.2.2.1.moved hW.alike, h.2.2.2.2.warm hW⟩
  have h0 := h.2.1 w hw hn
  cases w with
  | fieldLinkNest a i b n d hh => exact va_Nw.warmF hW h0
  | methodLinkNest a i x hh => exact va_Nw.warmM hW h0
  | _ => cases hn
def aCx (g : aG) (own : String) (bytes : ByteArray) (ret : Option FieldType) (nm : String) (nL lv : Nat) (p : Program) (R : Room) (s : State) (m : MethodId) (args : Array Value) (meth : Method) (c : Code) : Prop :=
  p.tables.exec = Jvm.exec ∧ c.code = bytes ∧ meth.sig.returnType = ret ∧ c.maxLocals = nL ∧ s.vm.findClass own = some m.cls ∧ (∀ w ∈ lw_g, w.before args s = true) ∧ meth.locks = false ∧ meth.name = nm ∧ knS g s ∧ lv ≤ R.frames ∧ 40 * lv ≤ R.locals
def alok (g : aG) (nL : Nat) (L : List aV) (ls : Array Slot) : Prop :=
  L.length = nL ∧ ls.size = nL ∧ lv_wf ls ∧ ∀ i, ¬ lg L i = vU → ls[i]? = some (.val (av g (lg L i)))
def aQc (g : aG) (n0 : Nat) (Q : aQ) : Array Value → State → Outcome → State → Prop := fun _ _ o t => ∃ (r : Option aV) (u : aS), o = .returned (r.map (av g)) ∧ Q r u ∧ aRep g u t.heap ∧ (∀ v, r = some v → vok (nx u) v) ∧ n0 ≤ nx u
def aPc (g : aG) (as : List aV) (u : aS) : Array Value → State → Prop := fun v U => v = (as.map (av g)).toArray ∧ aRep g u U.heap ∧ aok (nx u) as ∧ knS g U
def aF (g : aG) (n0 : Nat) (Q : aQ) (below : List Frame) (args : Array Value) (s : State) (R : Room) : State → Prop := MQ below (aQc g n0 Q) args s R.cells R.slots (aFr g)
def aW (g : aG) (p : Program) (l : Launch) (e : Env) (R : Room) (s : State) (m : MethodId) (args : Array Value) (below : List Frame) (meth : Method) (c : Code) (nL n0 : Nat) (Qf : State → Prop) : aP := fun pc L st u cc ss =>
  ∀ (H : Heap) (ls : Array Slot) (locs : List Loc) (cells slots : Nat), aRep g u H → alok g nL L ls → aok (nx u) L → aok (nx u) st → (∀ q ∈ locs, (gH g).size ≤ q.base) → cells + cc = R.cells → slots + ss = R.slots → n0 ≤ nx u →
    W p l e R s m args below meth c H locs cells slots Qf (F0 m pc ls (st.map (av g)))
/-! lemmas on numbers -/
theorem i_toInt {x : Int} (h : i_rg x) : (Int32.ofInt x).toInt = x := Int32.toInt_ofInt_of_le (by have := h.1; omega) (by have := h.2; omega)
theorem l_toInt {x : Int} (h : l_rg x) : (Int64.ofInt x).toInt = x := Int64.toInt_ofInt_of_le (by have := h.1; omega) (by have := h.2; omega)
theorem i_eq {x y : Int} (hx : i_rg x) (hy : i_rg y) : Int32.ofInt x = Int32.ofInt y ↔ x = y := by
  rw [← Int32.toInt_inj, i_toInt hx, i_toInt hy]
theorem i_lt {x y : Int} (hx : i_rg x) (hy : i_rg y) : Int32.ofInt x < Int32.ofInt y ↔ x < y := by
  rw [Int32.lt_iff_toInt_lt, i_toInt hx, i_toInt hy]
theorem i_le {x y : Int} (hx : i_rg x) (hy : i_rg y) : Int32.ofInt x ≤ Int32.ofInt y ↔ x ≤ y := by
  rw [Int32.le_iff_toInt_le, i_toInt hx, i_toInt hy]
theorem i_0 : (0 : Int32) = Int32.ofInt 0 := by decide
theorem i_rg0 : i_rg 0 := ⟨by decide, by decide⟩
theorem i_nat {x : Int} (h : i_rg x) : (Int32.ofInt x).toNatClampNeg = x.toNat := by
  show (Int32.ofInt x).toInt.toNat = _
  rw [i_toInt h]
theorem i_in {x : Int} {n : Nat} (h : i_rg x) (h0 : 0 ≤ x) (h1 : x < n) : ¬ (Int32.ofInt x < 0 ∨ n ≤ (Int32.ofInt x).toNatClampNeg) := by
  rw [i_0, i_lt h i_rg0, i_nat h]
  omega
theorem i_of32 (x : Int32) : i_rg x.toInt := by
  have h1 := x.le_toInt
  have h2 := x.toInt_lt
  exact ⟨by omega, by omega⟩
theorem l_of64 (x : Int64) : l_rg x.toInt := by
  have h1 := x.le_toInt
  have h2 := x.toInt_lt
  exact ⟨by omega, by omega⟩
/-! the locals -/
def alv (g : aG) : Nat → List aV → List (Nat × Value)
  | _, [] => []
  | i, .inr (.inr (.inr (.inr (.inr _)))) :: l => alv g (i + 1) l
  | i, v :: l => (i, av g v) :: alv g (i + 1) l
theorem alv_mem (g : aG) : ∀ (L : List aV) (k j : Nat), ¬ lg L j = vU → (k + j, av g (lg L j)) ∈ alv g k L
  | [], k, j, h => absurd rfl h
  | v :: l, k, j, h => by
    cases j with
    | zero =>
      unfold alv
      split
      · contradiction
      · rename_i heq; cases heq; exact absurd rfl h
      · rename_i heq; cases heq; exact List.mem_cons_self
    | succ j =>
      have ih := alv_mem g l (k + 1) j h
      rw [show k + 1 + j = k + (j + 1) by omega] at ih
      unfold alv
      split
      · contradiction
      · rename_i heq; cases heq; exact ih
      · rename_i heq; cases heq; exact List.mem_cons_of_mem _ ih
theorem alv_in (g : aG) : ∀ (L : List aV) (k : Nat) (q : Nat × Value), q ∈ alv g k L → ∃ j, ¬ lg L j = vU ∧ q = (k + j, av g (lg L j))
  | [], k, q, h => by cases h
  | v :: l, k, q, h => by
    have key : q ∈ alv g (k + 1) l → ∃ j, ¬ lg (v :: l) j = vU ∧ q = (k + j, av g (lg (v :: l) j)) := fun h => by
      obtain ⟨j, h1, h2⟩ := alv_in g l (k + 1) q h
      exact ⟨j + 1, h1, by rw [h2, show k + 1 + j = k + (j + 1) by omega]; rfl⟩
    have head : ¬ v = vU → q ∈ (k, av g v) :: alv g (k + 1) l → ∃ j, ¬ lg (v :: l) j = vU ∧ q = (k + j, av g (lg (v :: l) j)) := fun hv h => by
      rcases List.mem_cons.mp h with e | h
      · exact ⟨0, hv, e⟩
      · exact key h
    rcases v with x | r | f | x | d | z
    · exact head (fun q => by cases q) h
    · exact head (fun q => by cases q) h
    · exact head (fun q => by cases q) h
    · exact head (fun q => by cases q) h
    · exact head (fun q => by cases q) h
    · exact key h
theorem alok.has {g : aG} {nL : Nat} {L : List aV} {ls : Array Slot} (h : alok g nL L ls) : lv_has ls nL (alv g 0 L) := by
  refine ⟨h.2.1, h.2.2.1, fun q hq => ?_⟩
  obtain ⟨j, h1, h2⟩ := alv_in g L 0 q hq
  rw [h2, Nat.zero_add]
  exact h.2.2.2 j h1
theorem alok.wk {g : aG} {nL : Nat} {L L' : List aV} {ls : Array Slot} (h : alok g nL L ls) (hw : lwk L' L) : alok g nL L' ls := by
  refine ⟨hw.1.trans h.1, h.2.1, h.2.2.1, fun i hi => ?_⟩
  rcases hw.2 i with e | e
  · rw [e] at hi ⊢; exact h.2.2.2 i hi
  · exact absurd e hi
theorem lg_mem : ∀ (L : List aV) (i : Nat), ¬ lg L i = vU → lg L i ∈ L
  | [], _, h => absurd rfl h
  | v :: l, 0, _ => List.mem_cons_self
  | v :: l, n + 1, h => List.mem_cons_of_mem _ (lg_mem l n h)
theorem aok.wk {n : Nat} {L L' : List aV} (h : aok n L) (hw : lwk L' L) : aok n L' := by
  have key : ∀ i, vok n (lg L' i) := fun i => by
    rcases hw.2 i with e | e
    · rw [e]
      by_cases hv : lg L i = vU
      · rw [hv]; exact trivial
      · exact h _ (lg_mem L i hv)
    · rw [e]; exact trivial
  intro v hv
  obtain ⟨i, hi⟩ : ∃ i, lg L' i = v := by
    clear key hw
    induction L' with
    | nil => cases hv
    | cons a l ih =>
      rcases List.mem_cons.mp hv with e | hv
      · exact ⟨0, e.symm⟩
      · obtain ⟨i, hi⟩ := ih hv
        exact ⟨i + 1, hi⟩
  rw [← hi]
  exact key i
def wide : aV → Bool
  | .inr (.inr (.inr (.inl _))) => true
  | .inr (.inr (.inr (.inr (.inl _)))) => true
  | _ => false
theorem av_cat (g : aG) (v : aV) : (av g v).category = if wide v = true then 2 else 1 := by
  rcases v with x | r | f | x | d | z
  · rfl
  · cases r <;> rfl
  · rfl
  · rfl
  · rfl
  · rfl
theorem unw_len (L : List aV) (i : Nat) : (unw L i).length = L.length := by
  unfold unw
  split
  · rfl
  · split <;> first | exact lset_len _ _ _ | rfl
theorem unw_lg (L : List aV) (i j : Nat) (h : ¬ lg (unw L i) j = vU) : lg (unw L i) j = lg L j ∧ ¬ (j + 1 = i ∧ wide (lg L j) = true) := by
  cases i with
  | zero => exact ⟨rfl, fun q => by omega⟩
  | succ k =>
    have key : ∀ w, lg L k = w → wide w = true → ¬ lg (lset L k vU) j = vU → lg (lset L k vU) j = lg L j ∧ ¬ (j + 1 = k + 1 ∧ wide (lg L j) = true) := by
      intro w hw hww hj
      rw [lg_lset] at hj ⊢
      by_cases hc : j = k ∧ k < L.length
      · rw [if_pos hc] at hj; exact absurd rfl hj
      · rw [if_neg hc]
        refine ⟨rfl, fun q => hc ⟨by omega, ?_⟩⟩
        apply Classical.byContradiction
        intro hlt
        rw [lg_out L k (by omega)] at hw
        rw [← hw] at hww
        cases hww
    have plain : ∀ w, lg L k = w → wide w = false → lg L j = lg L j ∧ ¬ (j + 1 = k + 1 ∧ wide (lg L j) = true) := by
      intro w hw hww
      refine ⟨rfl, fun q => ?_⟩
      have : j = k := by omega
      subst this
      rw [hw, hww] at q
      cases q.2
    have hu : unw L (k + 1) = (match lg L k with
      | .inr (.inr (.inr (.inl _))) => lset L k vU
      | .inr (.inr (.inr (.inr (.inl _)))) => lset L k vU
      | _ => L) := rfl
    rcases hv : lg L k with x | r | f | x | d | z <;> rw [hv] at hu <;> rw [hu] at h ⊢
    · exact plain _ hv rfl
    · exact plain _ hv rfl
    · exact plain _ hv rfl
    · exact key _ hv rfl h
    · exact key _ hv rfl h
    · exact plain _ hv rfl
theorem alok.st1 {g : aG} {nL : Nat} {L : List aV} {ls ls' : Array Slot} {i : Nat} {v : aV} (h : alok g nL L ls) (h' : lv_has ls' nL ((i, av g v) :: (alv g 0 L).filter (fun q => !(q.1 == i) && !(q.1 + 1 == i && q.2.category == 2)))) : alok g nL (lst1 L i v) ls' := by
  refine ⟨by unfold lst1; rw [lset_len, unw_len]; exact h.1, h'.1, h'.2.1, fun j hj => ?_⟩
  unfold lst1 at hj ⊢
  rw [lg_lset] at hj ⊢
  by_cases hc : j = i ∧ i < (unw L i).length
  · rw [if_pos hc, hc.1]
    exact h'.2.2 (i, av g v) List.mem_cons_self
  · rw [if_neg hc] at hj ⊢
    obtain ⟨e1, e2⟩ := unw_lg L i j hj
    rw [e1] at hj ⊢
    have hji : ¬ j = i := fun q => by
      subst q
      refine hc ⟨rfl, ?_⟩
      rw [unw_len]
      apply Classical.byContradiction
      intro hlt
      exact hj (lg_out L j (by omega))
    have hm := alv_mem g L 0 j hj
    rw [Nat.zero_add] at hm
    refine h'.2.2 (j, av g (lg L j)) (List.mem_cons_of_mem _ (List.mem_filter.mpr ⟨hm, ?_⟩))
    rw [av_cat]
    by_cases hj1 : j + 1 = i
    · have hw : wide (lg L j) = false := by
        cases hh : wide (lg L j) with
        | false => rfl
        | true => exact absurd ⟨hj1, hh⟩ e2
      simp [hji, hw]
    · simp [hji, hj1]
theorem alok.st2 {g : aG} {nL : Nat} {L : List aV} {ls ls' : Array Slot} {i : Nat} {v : aV} (h : alok g nL L ls) (h' : lv_has ls' nL ((i, av g v) :: (alv g 0 L).filter (fun q => !(q.1 == i) && (!(q.1 == i + 1) && !(q.1 + 1 == i && q.2.category == 2))))) : alok g nL (lst2 L i v) ls' := by
  refine ⟨by unfold lst2; rw [lset_len, lset_len, unw_len]; exact h.1, h'.1, h'.2.1, fun j hj => ?_⟩
  unfold lst2 at hj ⊢
  rw [lg_lset] at hj ⊢
  by_cases hd : j = i + 1 ∧ i + 1 < (lset (unw L i) i v).length
  · rw [if_pos hd] at hj; exact absurd rfl hj
  rw [if_neg hd] at hj ⊢
  rw [lg_lset] at hj ⊢
  by_cases hc : j = i ∧ i < (unw L i).length
  · rw [if_pos hc, hc.1]
    exact h'.2.2 (i, av g v) List.mem_cons_self
  · rw [if_neg hc] at hj ⊢
    obtain ⟨e1, e2⟩ := unw_lg L i j hj
    rw [e1] at hj ⊢
    have hlt : j < L.length := by
      apply Classical.byContradiction
      intro hlt
      exact hj (lg_out L j (by omega))
    have hji : ¬ j = i := fun q => hc ⟨q, by rw [unw_len, ← q]; exact hlt⟩
    have hji1 : ¬ j = i + 1 := fun q => hd ⟨q, by rw [lset_len, unw_len, ← q]; exact hlt⟩
    have hm := alv_mem g L 0 j hj
    rw [Nat.zero_add] at hm
    refine h'.2.2 (j, av g (lg L j)) (List.mem_cons_of_mem _ (List.mem_filter.mpr ⟨hm, ?_⟩))
    rw [av_cat]
    by_cases hj1 : j + 1 = i
    · have hw : wide (lg L j) = false := by
        cases hh : wide (lg L j) with
        | false => rfl
        | true => exact absurd ⟨hj1, hh⟩ e2
      simp [hji, hji1, hw]
    · simp [hji, hji1, hj1]
theorem aok_lset {n : Nat} : ∀ (L : List aV) (i : Nat) (v : aV), aok n L → vok n v → aok n (lset L i v)
  | [], _, _, _, _ => aok_nil
  | a :: l, 0, v, h, hv => aok_cons.mpr ⟨hv, (aok_cons.mp h).2⟩
  | a :: l, k + 1, v, h, hv => aok_cons.mpr ⟨(aok_cons.mp h).1, aok_lset l k v (aok_cons.mp h).2 hv⟩
theorem aok_unw {n : Nat} {L : List aV} (i : Nat) (h : aok n L) : aok n (unw L i) := by
  unfold unw
  split
  · exact h
  · split <;> first | exact aok_lset _ _ _ h trivial | exact h
theorem aok_st1 {n : Nat} {L : List aV} {i : Nat} {v : aV} (h : aok n L) (hv : vok n v) : aok n (lst1 L i v) := aok_lset _ _ _ (aok_unw i h) hv
theorem aok_st2 {n : Nat} {L : List aV} {i : Nat} {v : aV} (h : aok n L) (hv : vok n v) : aok n (lst2 L i v) := aok_lset _ _ _ (aok_lset _ _ _ (aok_unw i h) hv) trivial
/-! the laws of the instructions -/
def mW (M : Nat) : List Cond := .code (mY M) (mB M) (mmx M) (mRt M) :: lw_g
def aCO (g : aG) (l : Launch) (R : Room) (call : aCall) : Prop := ∀ (M : Nat) (as : List aV) (u : aS) (Q : aQ), call M as u Q → ∃ rm : Room, Met l (mY M) (mW M) rm (aPc g as u) (aQc g (nx u) Q) (mk1 M) (mk2 M) (aFr g) ∧ rm.cells = mk1 M ∧ rm.slots = mk2 M ∧ rm.frames + 1 ≤ R.frames ∧ 8 + (mmx M + 11) + rm.locals ≤ R.locals
def SOK (own : String) (bytes : ByteArray) (ret : Option FieldType) (nm : String) (nL lv pc : Nat) (x : aT) : Prop :=
  ∀ (g : aG) (p : Program) (l : Launch) (e : Env) (R : Room) (s : State) (m : MethodId) (args : Array Value) (below : List Frame) (meth : Method) (c : Code) (call : aCall) (Q : aQ) (n0 : Nat), aCx g own bytes ret nm nL lv p R s m args meth c → aCO g l R call →
    ∀ P' : aP, (∀ pc L st u cc ss, P' pc L st u cc ss → aW g p l e R s m args below meth c nL n0 (aF g n0 Q below args s R) pc L st u cc ss) → ∀ L st u cc ss, x call Q P' L st u cc ss → aW g p l e R s m args below meth c nL n0 (aF g n0 Q below args s R) pc L st u cc ss
