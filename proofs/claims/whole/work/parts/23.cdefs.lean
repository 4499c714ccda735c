/-! the half of the class -/
def cS (u : aS) : Prop := (hR u 8 0 = some 9 ∧ hR u 8 1 = some 18 ∧ hR u 8 2 = some 19 ∧ hR u 8 3 = some 20 ∧ hR u 8 4 = some 21 ∧ hR u 8 5 = some 23) ∧ (hR u 9 0 = some 10 ∧ hR u 9 1 = some 17 ∧ hR u 21 0 = some 22 ∧ hR u 23 0 = some 24 ∧ hR u 23 2 = some 21 ∧ hR u 23 6 = some 49) ∧ (∀ s, 0 ≤ s → s < 6 → hR u 10 s = some (11 + s.toNat)) ∧ (∀ c, 0 ≤ c → c < 24 → hR u 24 c = some (25 + c.toNat)) ∧ (∀ k, 0 ≤ k → k ≤ 3 → hR u 18 k = some (50 + 20 * k.toNat)) ∧ ∀ r, 0 ≤ r → r ≤ 2 → hR u 20 r = some (130 + 3 * r.toNat)
theorem cS.sounds {u : aS} (h : cS u) : hR u 8 0 = some 9 := h.1.1
theorem cS.tracks {u : aS} (h : cS u) : hR u 8 1 = some 18 := h.1.2.1
theorem cS.kept {u : aS} (h : cS u) : hR u 8 2 = some 19 := h.1.2.2.1
theorem cS.racks {u : aS} (h : cS u) : hR u 8 3 = some 20 := h.1.2.2.2.1
theorem cS.text {u : aS} (h : cS u) : hR u 8 4 = some 21 := h.1.2.2.2.2.1
theorem cS.reader {u : aS} (h : cS u) : hR u 8 5 = some 23 := h.1.2.2.2.2.2
theorem cS.rows {u : aS} (h : cS u) : hR u 9 0 = some 10 := h.2.1.1
theorem cS.lengths {u : aS} (h : cS u) : hR u 9 1 = some 17 := h.2.1.2.1
theorem cS.letters {u : aS} (h : cS u) : hR u 21 0 = some 22 := h.2.1.2.2.1
theorem cS.clauses {u : aS} (h : cS u) : hR u 23 0 = some 24 := h.2.1.2.2.2.1
theorem cS.rtext {u : aS} (h : cS u) : hR u 23 2 = some 21 := h.2.1.2.2.2.2.1
theorem cS.told {u : aS} (h : cS u) : hR u 23 6 = some 49 := h.2.1.2.2.2.2.2
theorem cS.row {u : aS} (h : cS u) {s : Int} (h0 : 0 ≤ s) (h1 : s < 6) : hR u 10 s = some (11 + s.toNat) := h.2.2.1 s h0 h1
theorem cS.clause {u : aS} (h : cS u) {s : Int} (h0 : 0 ≤ s) (h1 : s < 24) : hR u 24 s = some (25 + s.toNat) := h.2.2.2.1 s h0 h1
theorem cS.track {u : aS} (h : cS u) {s : Int} (h0 : 0 ≤ s) (h1 : s ≤ 3) : hR u 18 s = some (50 + 20 * s.toNat) := h.2.2.2.2.1 s h0 h1
theorem cS.rack {u : aS} (h : cS u) {s : Int} (h0 : 0 ≤ s) (h1 : s ≤ 2) : hR u 20 s = some (130 + 3 * s.toNat) := h.2.2.2.2.2 s h0 h1
def cSo (u : aS) (K : So) : Prop := hI u 9 2 = K.1 ∧ (∀ s, 0 ≤ s → s < 6 → hI u 17 s = K.2.1 s) ∧ ∀ s i, 0 ≤ s → s < 6 → 0 ≤ i → i < K.2.1 s → s < K.1 → hF u (11 + s.toNat) i = K.2.2 s i
def cTx (u : aS) (K : Tx) : Prop := hI u 21 1 = K.1 ∧ ∀ i, 0 ≤ i → i < K.1 → hI u 22 i = K.2 i
def cTh (s v t : Int) : Prop := (0 ≤ v ∧ v ≤ 99) ∧ (s = 0 ∧ t = 0 ∨ s = 1 ∧ t = 1 + v ∨ s = 2 ∧ t = 101 + v)
def cR1 (u : aS) (R : Nat) (S N : Int) (T : Int → Int) : Prop := hR u R 0 = some (R + 1) ∧ hR u R 1 = some (R + 2) ∧ (hI u R 2 = if S = -1 then 1 else 0) ∧ (¬ S = -1 → hI u R 3 = S) ∧ hI u R 4 = N ∧ ∀ i, 0 ≤ i → i < 8 → cTh (hI u (R + 1) i) (hI u (R + 2) i) (T i)
def cRk (u : aS) (K : Rk) : Prop := ∀ r, 0 ≤ r → r ≤ 2 → cR1 u (130 + 3 * r.toNat) (K.1 r) (K.2.1 r) (fun i => K.2.2 (8 * r + i))
def cSp (u : aS) (b : Nat) (p : Sp) : Prop := (156 ≤ b ∧ b < nx u) ∧ hI u b 0 = q0 p ∧ hI u b 1 = q1 p ∧ hI u b 2 = q2 p ∧ hI u b 3 = q3 p ∧ hI u b 4 = q4 p ∧ hI u b 5 = q5 p ∧ hI u b 6 = q6 p
/-- a tape, whatever lies on it -/
def cT0 (u : aS) (t : Nat) : Prop := hR u t 0 = some (t + 1) ∧ ∀ i b, 0 ≤ i → i < 14 → hR u (t + 1) i = some b → 156 ≤ b ∧ b < nx u
def cTk (u : aS) (t : Nat) (K : Tk) : Prop := cT0 u t ∧ hI u t 1 = K.1.length ∧ hI u t 2 = K.2 ∧ ∀ (i : Nat) (p : Sp), K.1[i]? = some p → ∃ b, hR u (t + 1) i = some b ∧ cSp u b p
/-- the six tapes of a track that change their places -/
def tA (B a : Nat) : Prop := a = B + 1 ∨ a = B + 3 ∨ a = B + 8 ∨ a = B + 10 ∨ a = B + 12 ∨ a = B + 14
def tps (B a0 a1 p0 p1 p2 p3 : Nat) : Prop := (tA B a0 ∧ tA B a1 ∧ tA B p0 ∧ tA B p1 ∧ tA B p2 ∧ tA B p3) ∧ (¬ a0 = a1 ∧ ¬ a0 = p0 ∧ ¬ a0 = p1 ∧ ¬ a0 = p2 ∧ ¬ a0 = p3) ∧ (¬ a1 = p0 ∧ ¬ a1 = p1 ∧ ¬ a1 = p2 ∧ ¬ a1 = p3) ∧ (¬ p0 = p1 ∧ ¬ p0 = p2 ∧ ¬ p0 = p3) ∧ (¬ p1 = p2 ∧ ¬ p1 = p3) ∧ ¬ p2 = p3
/-- the references of a track -/
def cB (u : aS) (B a0 a1 p0 p1 p2 p3 : Nat) : Prop := (hR u B 0 = some a0 ∧ hR u B 1 = some a1 ∧ hR u B 2 = some (B + 5) ∧ hR u B 5 = some (B + 6) ∧ hR u B 6 = some (B + 7) ∧ hR u (B + 6) 0 = some (B + 16) ∧ hR u (B + 6) 1 = some (B + 18)) ∧ (hR u (B + 5) 0 = some p0 ∧ hR u (B + 5) 1 = some p1 ∧ hR u (B + 5) 2 = some p2 ∧ hR u (B + 5) 3 = some p3) ∧ (cT0 u a0 ∧ cT0 u a1 ∧ cT0 u p0 ∧ cT0 u p1 ∧ cT0 u p2 ∧ cT0 u p3 ∧ cT0 u (B + 16) ∧ cT0 u (B + 18)) ∧ tps B a0 a1 p0 p1 p2 p3
def cP (u : aS) : List Tk → List Nat → Prop
  | [], _ => True
  | _ :: _, [] => False
  | t :: l, p :: r => cTk u p t ∧ cP u l r
def cT1 (u : aS) (B : Nat) (K : Tk × List Tk × Int) : Prop := ∃ a0 a1 p0 p1 p2 p3, cB u B a0 a1 p0 p1 p2 p3 ∧ cTk u a0 K.1 ∧ cP u K.2.1 [p0, p1, p2, p3] ∧ hI u B 3 = K.2.1.length ∧ hI u B 4 = K.2.2
def cTr (u : aS) (K : Tr) : Prop := ∀ k, 0 ≤ k → k ≤ 3 → cT1 u (50 + 20 * k.toNat) (K k)
def cKp (u : aS) (K : Kp) : Prop := ∀ k, 0 ≤ k → k ≤ 1 → hI u 19 k = (K k).1 ∧ ((K k).1 = 1 → ∀ j, 0 ≤ j → j ≤ 3 → cTk u (50 + 20 * j.toNat + 16 + 2 * k.toNat) ((K k).2 j).1 ∧ hI u (50 + 20 * j.toNat + 7) k = ((K k).2 j).2)
def cA (u : aS) (A : Al) : Prop := cS u ∧ 156 ≤ nx u ∧ cSo u A.1 ∧ cTx u A.2.1 ∧ cRk u A.2.2.1 ∧ cTr u A.2.2.2.1 ∧ cKp u A.2.2.2.2
/-- what has changed lies at addresses with p -/
def fA (p : Nat → Prop) (u u' : aS) : Prop := (∀ a, ¬ p a → ∀ i, hI u' a i = hI u a i ∧ hF u' a i = hF u a i ∧ hR u' a i = hR u a i) ∧ nx u ≤ nx u'
theorem fA_rfl (p : Nat → Prop) (u : aS) : fA p u u := ⟨fun _ _ _ => ⟨rfl, rfl, rfl⟩, Nat.le_refl _⟩
theorem fA_tr {p : Nat → Prop} {u v w : aS} (h1 : fA p u v) (h2 : fA p v w) : fA p u w := ⟨fun a h i => ⟨(h2.1 a h i).1.trans (h1.1 a h i).1, (h2.1 a h i).2.1.trans (h1.1 a h i).2.1, (h2.1 a h i).2.2.trans (h1.1 a h i).2.2⟩, Nat.le_trans h1.2 h2.2⟩
theorem fA_wk {p q : Nat → Prop} {u v : aS} (h : fA p u v) (hp : ∀ a, p a → q a) : fA q u v := ⟨fun a ha i => h.1 a (fun z => ha (hp a z)) i, h.2⟩
theorem fA_sI {p : Nat → Prop} (u : aS) {a : Nat} (i v : Int) (h : p a) : fA p u (sI u a i v) := ⟨fun b hb j => ⟨by rw [hI_sI, if_neg (fun z : b = a ∧ j = i => hb (z.1 ▸ h))], rfl, rfl⟩, Nat.le_refl _⟩
theorem fA_sF {p : Nat → Prop} (u : aS) {a : Nat} (i : Int) (v : UInt32) (h : p a) : fA p u (sF u a i v) := ⟨fun b hb j => ⟨rfl, by rw [hF_sF, if_neg (fun z : b = a ∧ j = i => hb (z.1 ▸ h))], rfl⟩, Nat.le_refl _⟩
theorem fA_sR {p : Nat → Prop} (u : aS) {a : Nat} (i : Int) (v : Option Nat) (h : p a) : fA p u (sR u a i v) := ⟨fun b hb j => ⟨rfl, rfl, by rw [hR_sR, if_neg (fun z : b = a ∧ j = i => hb (z.1 ▸ h))]⟩, Nat.le_refl _⟩
theorem fA_nw {p : Nat → Prop} (u : aS) (k : Nat) : fA p u (nw u k) := ⟨fun _ _ _ => ⟨rfl, rfl, rfl⟩, Nat.le_add_right _ _⟩
theorem fA_fl {p : Nat → Prop} (u : aS) {a : Nat} (i j v : Int) (h : p a) : fA p u (fl u a i j v) := ⟨fun b hb q => ⟨by rw [hI_fl, if_neg (fun z : b = a ∧ i ≤ q ∧ q < j => hb (z.1 ▸ h))], rfl, rfl⟩, Nat.le_refl _⟩
theorem fA_cp {p : Nat → Prop} (u : aS) {a : Nat} (i j : Int) (b : Nat) (o : Int) (h : p a) : fA p u (cp u a i j b o) := ⟨fun c hb q => ⟨by rw [hI_cp, if_neg (fun z : c = a ∧ i ≤ q ∧ q < j => hb (z.1 ▸ h))], rfl, rfl⟩, Nat.le_refl _⟩
/-! what has not been touched stays -/
theorem cS_f {p : Nat → Prop} {u u' : aS} (hf : fA p u u') (hp : ∀ a, p a → ¬ (a = 8 ∨ a = 9 ∨ a = 21 ∨ a = 23 ∨ a = 10 ∨ a = 24 ∨ a = 18 ∨ a = 20)) (h : cS u) : cS u' := by
  have e : ∀ a i, (a = 8 ∨ a = 9 ∨ a = 21 ∨ a = 23 ∨ a = 10 ∨ a = 24 ∨ a = 18 ∨ a = 20) → hR u' a i = hR u a i := fun a i ha => (hf.1 a (fun z => hp a z ha) i).2.2
  unfold cS
  simp only [e 8 _ (by omega), e 9 _ (by omega), e 21 _ (by omega), e 23 _ (by omega), e 10 _ (by omega), e 24 _ (by omega), e 18 _ (by omega), e 20 _ (by omega)]
  exact h
theorem cSo_f {p : Nat → Prop} {u u' : aS} {K : So} (hf : fA p u u') (hp : ∀ a, p a → ¬ (9 ≤ a ∧ a ≤ 17)) (h : cSo u K) : cSo u' K := by
  refine ⟨?_, fun s s0 s1 => ?_, fun s i s0 s1 i0 i1 i2 => ?_⟩
  · rw [(hf.1 9 (fun z => hp _ z (by omega)) 2).1]
    exact h.1
  · rw [(hf.1 17 (fun z => hp _ z (by omega)) s).1]
    exact h.2.1 s s0 s1
  · rw [(hf.1 (11 + s.toNat) (fun z => hp _ z (by omega)) i).2.1]
    exact h.2.2 s i s0 s1 i0 i1 i2
theorem cTx_f {p : Nat → Prop} {u u' : aS} {K : Tx} (hf : fA p u u') (hp : ∀ a, p a → ¬ (a = 21 ∨ a = 22)) (h : cTx u K) : cTx u' K := by
  refine ⟨?_, fun i i0 i1 => ?_⟩
  · rw [(hf.1 21 (fun z => hp _ z (by omega)) 1).1]
    exact h.1
  · rw [(hf.1 22 (fun z => hp _ z (by omega)) i).1]
    exact h.2 i i0 i1
theorem cR1_f {p : Nat → Prop} {u u' : aS} {R : Nat} {S N : Int} {T : Int → Int} (hf : fA p u u') (h0 : ¬ p R) (h1 : ¬ p (R + 1)) (h2 : ¬ p (R + 2)) (h : cR1 u R S N T) : cR1 u' R S N T := by
  unfold cR1
  simp only [(hf.1 R h0 _).1, (hf.1 R h0 _).2.2, (hf.1 _ h1 _).1, (hf.1 _ h2 _).1]
  exact h
theorem cRk_f {p : Nat → Prop} {u u' : aS} {K : Rk} (hf : fA p u u') (hp : ∀ a, p a → ¬ (130 ≤ a ∧ a ≤ 138)) (h : cRk u K) : cRk u' K :=
  fun r r0 r1 => cR1_f hf (fun z => hp _ z (by omega)) (fun z => hp _ z (by omega)) (fun z => hp _ z (by omega)) (h r r0 r1)
theorem cSp_f {p : Nat → Prop} {u u' : aS} {b : Nat} {q : Sp} (hf : fA p u u') (hp : ¬ p b) (h : cSp u b q) : cSp u' b q := by
  unfold cSp
  simp only [(hf.1 b hp _).1]
  exact ⟨⟨h.1.1, Nat.lt_of_lt_of_le h.1.2 hf.2⟩, h.2⟩
theorem cT0_f {p : Nat → Prop} {u u' : aS} {t : Nat} (hf : fA p u u') (h0 : ¬ p t) (h1 : ¬ p (t + 1)) (h : cT0 u t) : cT0 u' t := by
  refine ⟨?_, fun i b i0 i1 e => ?_⟩
  · rw [(hf.1 t h0 0).2.2]
    exact h.1
  · rw [(hf.1 _ h1 i).2.2] at e
    exact ⟨(h.2 i b i0 i1 e).1, Nat.lt_of_lt_of_le (h.2 i b i0 i1 e).2 hf.2⟩
theorem cTk_f {p : Nat → Prop} {u u' : aS} {t : Nat} {K : Tk} (hf : fA p u u') (h0 : ¬ p t) (h1 : ¬ p (t + 1)) (h2 : ∀ b, 156 ≤ b → b < nx u → ¬ p b) (h : cTk u t K) : cTk u' t K := by
  refine ⟨cT0_f hf h0 h1 h.1, ?_, ?_, fun i q hq => ?_⟩
  · rw [(hf.1 t h0 1).1]
    exact h.2.1
  · rw [(hf.1 t h0 2).1]
    exact h.2.2.1
  · obtain ⟨b, e, hb⟩ := h.2.2.2 i q hq
    refine ⟨b, ?_, cSp_f hf (h2 b hb.1.1 hb.1.2) hb⟩
    rw [(hf.1 _ h1 i).2.2]
    exact e
theorem cP_f {p : Nat → Prop} {u u' : aS} (hf : fA p u u') (h2 : ∀ b, 156 ≤ b → b < nx u → ¬ p b) : ∀ (l : List Tk) (r : List Nat), (∀ t, t ∈ r → ¬ p t ∧ ¬ p (t + 1)) → cP u l r → cP u' l r
  | [], _, _, _ => trivial
  | _ :: _, [], _, h => h
  | t :: l, q :: r, hr, h => ⟨cTk_f hf (hr q (List.mem_cons_self ..)).1 (hr q (List.mem_cons_self ..)).2 h2 h.1, cP_f hf h2 l r (fun t ht => hr t (List.mem_cons_of_mem _ ht)) h.2⟩
theorem cT1_f {p : Nat → Prop} {u u' : aS} {B : Nat} {K : Tk × List Tk × Int} (hf : fA p u u') (hp : ∀ a, B ≤ a → a < B + 20 → ¬ p a) (h2 : ∀ b, 156 ≤ b → b < nx u → ¬ p b) (h : cT1 u B K) : cT1 u' B K := by
  obtain ⟨a0, a1, p0, p1, p2, p3, hb, h3, h4, h5, h6⟩ := h
  have ht : ∀ a, tA B a → ¬ p a ∧ ¬ p (a + 1) := by
    intro a ha
    unfold tA at ha
    exact ⟨hp a (by omega) (by omega), hp _ (by omega) (by omega)⟩
  obtain ⟨hb1, hb2, ⟨c0, c1, c2, c3, c4, c5, c6, c7⟩, hq⟩ := hb
  obtain ⟨⟨t0, t1, t2, t3, t4, t5⟩, tq⟩ := hq
  refine ⟨a0, a1, p0, p1, p2, p3, ⟨?_, ?_, ⟨cT0_f hf (ht a0 t0).1 (ht a0 t0).2 c0, cT0_f hf (ht _ t1).1 (ht _ t1).2 c1, cT0_f hf (ht _ t2).1 (ht _ t2).2 c2, cT0_f hf (ht _ t3).1 (ht _ t3).2 c3, cT0_f hf (ht _ t4).1 (ht _ t4).2 c4, cT0_f hf (ht _ t5).1 (ht _ t5).2 c5, cT0_f hf (hp _ (by omega) (by omega)) (hp _ (by omega) (by omega)) c6, cT0_f hf (hp _ (by omega) (by omega)) (hp _ (by omega) (by omega)) c7⟩, ⟨t0, t1, t2, t3, t4, t5⟩, tq⟩, cTk_f hf (ht a0 t0).1 (ht a0 t0).2 h2 h3, ?_, ?_, ?_⟩
  · simp only [(hf.1 B (hp _ (by omega) (by omega)) _).2.2, (hf.1 (B + 6) (hp _ (by omega) (by omega)) _).2.2]
    exact hb1
  · simp only [(hf.1 (B + 5) (hp _ (by omega) (by omega)) _).2.2]
    exact hb2
  · refine cP_f hf h2 _ _ (fun t ht' => ?_) h4
    simp only [List.mem_cons, List.not_mem_nil, or_false] at ht'
    rcases ht' with e | e | e | e
    · exact ht t (e ▸ t2)
    · exact ht t (e ▸ t3)
    · exact ht t (e ▸ t4)
    · exact ht t (e ▸ t5)
  · rw [(hf.1 B (hp _ (by omega) (by omega)) _).1]
    exact h5
  · rw [(hf.1 B (hp _ (by omega) (by omega)) _).1]
    exact h6
theorem cTr_f {p : Nat → Prop} {u u' : aS} {K : Tr} (hf : fA p u u') (hp : ∀ a, p a → ¬ (50 ≤ a ∧ a ≤ 129)) (h2 : ∀ b, 156 ≤ b → b < nx u → ¬ p b) (h : cTr u K) : cTr u' K :=
  fun k k0 k1 => cT1_f hf (fun a a0 a1 z => hp a z (by omega)) h2 (h k k0 k1)
theorem cKp_f {p : Nat → Prop} {u u' : aS} {K : Kp} (hf : fA p u u') (h0 : ¬ p 19) (hp : ∀ j k : Nat, j ≤ 3 → k ≤ 1 → ¬ p (50 + 20 * j + 16 + 2 * k) ∧ ¬ p (50 + 20 * j + 16 + 2 * k + 1) ∧ ¬ p (50 + 20 * j + 7)) (h2 : ∀ b, 156 ≤ b → b < nx u → ¬ p b) (h : cKp u K) : cKp u' K := by
  intro k k0 k1
  refine ⟨?_, fun e j j0 j1 => ⟨?_, ?_⟩⟩
  · rw [(hf.1 19 h0 k).1]
    exact (h k k0 k1).1
  · have g := hp j.toNat k.toNat (by omega) (by omega)
    exact cTk_f hf g.1 g.2.1 h2 ((h k k0 k1).2 e j j0 j1).1
  · have g := hp j.toNat k.toNat (by omega) (by omega)
    rw [(hf.1 _ g.2.2 k).1]
    exact ((h k k0 k1).2 e j j0 j1).2
