/-! what is done on tracks -/
def layR (l : List Sp) (p : Sp) (g : Int) : List (Int × Sp) := ins (12, p) (rs (q3 p) (qe p) g (en 0 l))
def clrR (l : List Sp) (a b : Int) : List (Int × Sp) := rs a b (-1) (en 0 l)
def cutR (l : List Sp) (x i : Int) (p : Sp) : List (Int × Sp) := ins (i, frm p x) (ins (i, ahd p x) (rs 0 0 i (en 0 l)))
theorem en_mem : ∀ {l : List Sp} {i : Int} {e : Int × Sp}, e ∈ en i l → i ≤ e.1 ∧ e.1 < i + l.length ∧ e.2 ∈ l ∧ l[(e.1 - i).toNat]? = some e.2
  | [], _, _, h => by simp [en] at h
  | p :: l, i, e, h => by
    unfold en at h
    rcases List.mem_cons.mp h with z | z
    · subst z
      refine ⟨Int.le_refl _, ?_, List.mem_cons_self .., ?_⟩
      · simp
        omega
      · simp
    · obtain ⟨h1, h2, h3, h4⟩ := en_mem z
      refine ⟨by omega, ?_, List.mem_cons_of_mem _ h3, ?_⟩
      · simp
        omega
      · have e1 : (e.1 - i).toNat = (e.1 - (i + 1)).toNat + 1 := by omega
        rw [e1]
        simpa using h4
theorem en_get : ∀ {l : List Sp} {i : Int} {j : Nat} {p : Sp}, l[j]? = some p → (i + j, p) ∈ en i l
  | [], _, _, _, h => by simp at h
  | q :: l, i, 0, p, h => by
    simp at h
    subst h
    unfold en
    simp
  | q :: l, i, j + 1, p, h => by
    simp at h
    have := en_get (i := i + 1) h
    unfold en
    have e : i + ((j + 1 : Nat) : Int) = i + 1 + (j : Int) := by omega
    rw [e]
    exact List.mem_cons_of_mem _ this
theorem en_len : ∀ (l : List Sp) (i : Int), (en i l).length = l.length
  | [], _ => rfl
  | p :: l, i => by simp [en, en_len l]
theorem RS_en {l : List Sp} {lo i : Int} (h : SL lo l) : RS lo (en i l) := by
  unfold RS
  rw [en_snd]
  exact h
theorem en_u {l : List Sp} {i : Int} {e f : Int × Sp} (he : e ∈ en i l) (hf : f ∈ en i l) (h : e.1 = f.1) : e = f := by
  have h1 := (en_mem he).2.2.2
  have h2 := (en_mem hf).2.2.2
  rw [h, h2] at h1
  have h3 : f.2 = e.2 := by simpa using h1
  exact Prod.ext h h3.symm
theorem own_iff {l : List Sp} (hl : SL 0 l) {e : Int × Sp} (he : e ∈ en 0 l) (x : Int) : oR (en 0 l) x = e.1 ↔ q3 e.2 ≤ x ∧ x < qe e.2 := by
  constructor
  · intro h
    have g := en_mem he
    obtain ⟨f, f1, f2, f3, f4⟩ := oR_ex (R := en 0 l) (x := x) (by omega)
    have : f = e := en_u f1 he (f4.trans h)
    subst this
    exact ⟨f2, f3⟩
  · intro h
    exact oR_mem (RS_en hl) e he h.1 h.2
theorem own_b {l : List Sp} (x : Int) : -1 ≤ oR (en 0 l) x ∧ oR (en 0 l) x < l.length := by
  by_cases h : oR (en 0 l) x = -1
  · omega
  · obtain ⟨f, f1, f2, f3, f4⟩ := oR_ex h
    have := en_mem f1
    omega
theorem RS_d {R : List (Int × Sp)} {lo : Int} (h : RS lo R) {e f : Int × Sp} (he : e ∈ R) (hf : f ∈ R) (hn : ¬ e = f) : qe e.2 ≤ q3 f.2 ∨ qe f.2 ≤ q3 e.2 := by
  apply Classical.byContradiction
  intro hc
  have h1 := RS_ge h he
  have h2 := RS_ge h hf
  have e1 : qe e.2 = q3 e.2 + q2 e.2 := rfl
  have e2 : qe f.2 = q3 f.2 + q2 f.2 := rfl
  by_cases hx : q3 e.2 ≤ q3 f.2
  · exact hn (RS_u h e f he hf (x := q3 f.2) hx (by omega) (by omega) (by omega))
  · exact hn (RS_u h e f he hf (x := q3 e.2) (by omega) (by omega) (by omega) (by omega))
theorem lay_Rp {l : List Sp} {p : Sp} {g : Int} {ow : Int → Int} (hl : SL 0 l) (h3 : 0 ≤ q3 p) (h2 : 1 ≤ q2 p) (h1 : qe p ≤ 128) (hn : l.length ≤ 12) (ho : ∀ x, 0 ≤ x → x < 128 → ow x = if q3 p ≤ x ∧ x < qe p then 12 else if oR (en 0 l) x = g then -1 else oR (en 0 l) x) : Rp ow (-1) (layR l p g) := by
  have r0 : RS 0 (en 0 l) := RS_en hl
  have r1 : RS 0 (rs (q3 p) (qe p) g (en 0 l)) := rs_RS r0
  have eq : qe p = q3 p + q2 p := rfl
  have hd : ∀ e, e ∈ rs (q3 p) (qe p) g (en 0 l) → qe e.2 ≤ q3 p ∨ qe p ≤ q3 e.2 := by
    intro e he
    obtain ⟨f, f1, f2, f3, f4⟩ := rs_mem he
    rcases f4 with ⟨z, y⟩ | ⟨z1, z2, z3, z⟩ | ⟨z1, z2, z3, z4, z⟩
    · rw [z]
      omega
    · rw [z]
      refine Or.inl ?_
      show q3 f.2 + (q3 p - q3 f.2) ≤ q3 p
      omega
    · rw [z]
      exact Or.inr (Int.le_refl _)
  refine ⟨ins_RS r1 h3 h2 h1 hd, fun x x0 x1 => ?_, fun e he => ?_⟩
  · rw [ho x x0 x1, layR, oR_ins x r1 h2 hd, oR_rs x r0]
    show (if q3 p ≤ x ∧ x < qe p then 12 else _) = if q3 p ≤ x ∧ x < qe p then 12 else if q3 p ≤ x ∧ x < qe p then -1 else _
    by_cases hx : q3 p ≤ x ∧ x < qe p
    · rw [if_pos hx, if_pos hx]
    · rw [if_neg hx, if_neg hx, if_neg hx]
  · rcases ins_mem.mp he with z | z
    · subst z
      refine ⟨by show ¬ (12 : Int) = -1; omega, ?_, Or.inl (by show -1 ≤ q3 p; omega)⟩
      by_cases hz : q3 p = 0
      · exact Or.inl hz
      · refine Or.inr (Or.inr ?_)
        show ¬ ow (q3 p - 1) = 12
        rw [ho _ (by omega) (by omega), if_neg (by omega)]
        have := own_b (l := l) (q3 p - 1)
        split <;> omega
    · have ge := RS_ge r1 z
      obtain ⟨f, f1, f2, f3, f4⟩ := rs_mem z
      have gf := en_mem f1
      have rf := RS_ge r0 f1
      refine ⟨by omega, ?_, Or.inl (by omega)⟩
      have st : q3 e.2 = q3 f.2 → q3 e.2 = 0 ∨ q3 e.2 = -1 ∨ ¬ ow (q3 e.2 - 1) = e.1 := by
        intro hq
        by_cases hz : q3 e.2 = 0
        · exact Or.inl hz
        · refine Or.inr (Or.inr ?_)
          rw [ho _ (by omega) (by unfold qe at rf; omega)]
          have := own_iff hl f1 (q3 e.2 - 1)
          split
          · omega
          · split
            · omega
            · omega
      rcases f4 with ⟨y1, y2⟩ | ⟨y1, y2, y3, y4⟩ | ⟨y1, y2, y3, y4, y5⟩
      · exact st (by rw [y1])
      · exact st (by rw [y4]; rfl)
      · refine Or.inr (Or.inr ?_)
        have hq : q3 e.2 = qe p := by
          rw [y5]
          rfl
        rw [hq, ho _ (by omega) (by omega), if_pos (by omega)]
        omega
theorem clr_Rp {l : List Sp} {a b : Int} {ow : Int → Int} (hl : SL 0 l) (h0 : 0 ≤ a) (h1 : b ≤ 128) (ho : ∀ x, 0 ≤ x → x < 128 → ow x = if a ≤ x ∧ x < b then -1 else oR (en 0 l) x) : Rp ow (-1) (clrR l a b) := by
  have r0 : RS 0 (en 0 l) := RS_en hl
  have r1 : RS 0 (rs a b (-1) (en 0 l)) := rs_RS r0
  refine ⟨r1, fun x x0 x1 => ?_, fun e he => ?_⟩
  · rw [ho x x0 x1, clrR, oR_rs x r0]
    split
    · rfl
    · split
      · rename_i hz
        exact hz
      · rfl
  · have ge := RS_ge r1 he
    obtain ⟨f, f1, f2, f3, f4⟩ := rs_mem he
    have gf := en_mem f1
    have rf := RS_ge r0 f1
    refine ⟨by omega, ?_, Or.inl (by omega)⟩
    have st : q3 e.2 = q3 f.2 → q3 e.2 = 0 ∨ q3 e.2 = -1 ∨ ¬ ow (q3 e.2 - 1) = e.1 := by
      intro hq
      by_cases hz : q3 e.2 = 0
      · exact Or.inl hz
      · refine Or.inr (Or.inr ?_)
        rw [ho _ (by omega) (by unfold qe at rf; omega)]
        have := own_iff hl f1 (q3 e.2 - 1)
        split
        · omega
        · omega
    rcases f4 with ⟨y1, y2⟩ | ⟨y1, y2, y3, y4⟩ | ⟨y1, y2, y3, y4, y5⟩
    · exact st (by rw [y1])
    · exact st (by rw [y4]; rfl)
    · refine Or.inr (Or.inr ?_)
      have hq : q3 e.2 = b := by
        rw [y5]
        rfl
      rw [hq, ho _ (by omega) (by omega), if_pos (by omega)]
      omega
theorem cut_Rp {l : List Sp} {x : Int} {c : Int × Sp} {ow : Int → Int} (hl : SL 0 l) (hc : c ∈ en 0 l) (h1 : q3 c.2 < x) (h2 : x < qe c.2) (ho : ∀ x, 0 ≤ x → x < 128 → ow x = oR (en 0 l) x) : Rp ow x (cutR l x c.1 c.2) := by
  have r0 : RS 0 (en 0 l) := RS_en hl
  have r1 : RS 0 (rs 0 0 c.1 (en 0 l)) := rs_RS r0
  have gc := en_mem hc
  have rc := RS_ge r0 hc
  have eq : qe c.2 = q3 c.2 + q2 c.2 := rfl
  have ea3 : q3 (ahd c.2 x) = q3 c.2 := rfl
  have ea2 : q2 (ahd c.2 x) = x - q3 c.2 := rfl
  have eae : qe (ahd c.2 x) = x := by
    show q3 c.2 + (x - q3 c.2) = x
    omega
  have ef3 : q3 (frm c.2 x) = x := rfl
  have ef2 : q2 (frm c.2 x) = q2 c.2 - (x - q3 c.2) := rfl
  have efe : qe (frm c.2 x) = qe c.2 := by
    show x + (q2 c.2 - (x - q3 c.2)) = q3 c.2 + q2 c.2
    omega
  have hm : ∀ e, e ∈ rs 0 0 c.1 (en 0 l) → e ∈ en 0 l ∧ ¬ e.1 = c.1 ∧ (qe e.2 ≤ q3 c.2 ∨ qe c.2 ≤ q3 e.2) := by
    intro e he
    obtain ⟨f, f1, f2, f3, f4⟩ := rs_mem he
    rcases f4 with ⟨z, y⟩ | ⟨z1, z2, z3, z⟩ | ⟨z1, z2, z3, z4, z⟩
    · have e1 : e = f := Prod.ext f3 z
      subst e1
      exact ⟨f1, f2, RS_d r0 f1 hc (fun z => f2 (congrArg Prod.fst z))⟩
    · omega
    · omega
  have d1 : ∀ e, e ∈ rs 0 0 c.1 (en 0 l) → qe e.2 ≤ q3 (ahd c.2 x) ∨ qe (ahd c.2 x) ≤ q3 e.2 := by
    intro e he
    have := (hm e he).2.2
    omega
  have r2 : RS 0 (ins (c.1, ahd c.2 x) (rs 0 0 c.1 (en 0 l))) := ins_RS r1 (by show 0 ≤ q3 c.2; omega) (by show 1 ≤ x - q3 c.2; omega) (by show qe (ahd c.2 x) ≤ 128; omega) d1
  have d2 : ∀ e, e ∈ ins (c.1, ahd c.2 x) (rs 0 0 c.1 (en 0 l)) → qe e.2 ≤ q3 (frm c.2 x) ∨ qe (frm c.2 x) ≤ q3 e.2 := by
    intro e he
    rcases ins_mem.mp he with z | z
    · subst z
      exact Or.inl (by show qe (ahd c.2 x) ≤ q3 (frm c.2 x); omega)
    · have := (hm e z).2.2
      omega
  refine ⟨ins_RS r2 (by show 0 ≤ x; omega) (by show 1 ≤ q2 (frm c.2 x); omega) (by show qe (frm c.2 x) ≤ 128; omega) d2, fun y y0 y1 => ?_, fun e he => ?_⟩
  · rw [ho y y0 y1, cutR, oR_ins y r2 (by show 1 ≤ q2 (frm c.2 x); omega) d2, oR_ins y r1 (by show 1 ≤ x - q3 c.2; omega) d1, oR_rs y r0]
    show _ = if q3 (frm c.2 x) ≤ y ∧ y < qe (frm c.2 x) then c.1 else if q3 (ahd c.2 x) ≤ y ∧ y < qe (ahd c.2 x) then c.1 else _
    have := own_iff hl hc y
    rw [ef3, efe, ea3, eae]
    by_cases hx : q3 c.2 ≤ y ∧ y < qe c.2
    · rw [this.mpr hx]
      by_cases hy : x ≤ y ∧ y < qe c.2
      · rw [if_pos hy]
      · rw [if_neg hy, if_pos (by omega)]
    · rw [if_neg (by omega), if_neg (by omega), if_neg (by omega), if_neg (fun z => hx (this.mp z))]
  · have st : ∀ f, f ∈ en 0 l → ∀ e : Int × Sp, e.1 = f.1 → q3 e.2 = q3 f.2 → q3 e.2 = 0 ∨ q3 e.2 = x ∨ ¬ ow (q3 e.2 - 1) = e.1 := by
      intro f f1 e e1 hq
      have rf := RS_ge r0 f1
      by_cases hz : q3 e.2 = 0
      · exact Or.inl hz
      · refine Or.inr (Or.inr ?_)
        rw [ho _ (by omega) (by unfold qe at rf; omega)]
        have := own_iff hl f1 (q3 e.2 - 1)
        omega
    rcases ins_mem.mp he with z | z
    · subst z
      exact ⟨by show ¬ c.1 = -1; omega, Or.inr (Or.inl rfl), Or.inl (Int.le_refl _)⟩
    · rcases ins_mem.mp z with y | y
      · subst y
        exact ⟨by show ¬ c.1 = -1; omega, st c hc _ rfl rfl, Or.inr (by show qe (ahd c.2 x) ≤ x; omega)⟩
      · obtain ⟨m1, m2, m3⟩ := hm e y
        have gm := en_mem m1
        exact ⟨by omega, st e m1 e rfl rfl, by omega⟩
/-! how a run's span is made of the old ones -/
def Fw (f : Int → Int) (i : Int) (p : Sp) : Prop := f (7 * i) = q0 p ∧ f (7 * i + 1) = q1 p ∧ f (7 * i + 2) = q2 p ∧ f (7 * i + 3) = q3 p ∧ f (7 * i + 4) = q4 p ∧ f (7 * i + 5) = q5 p ∧ f (7 * i + 6) = q6 p
def Mq (f : Int → Int) (e : Int × Sp) : Prop := ∃ p, Fw f e.1 p ∧ vP p ∧ q0 e.2 = q0 p ∧ q1 e.2 = q1 p + q3 e.2 - q3 p ∧ q4 e.2 = q4 p ∧ q5 e.2 = (if q3 e.2 = q3 p then min (q5 p) (q2 e.2) else 0) ∧ q6 e.2 = (if qe e.2 = q3 p + q2 p then min (q6 p) (q2 e.2) else 0)
theorem Mq_same {f : Int → Int} {i : Int} {p : Sp} (h : Fw f i p) (hv : vP p) : Mq f (i, p) := by
  refine ⟨p, h, hv, rfl, ?_, rfl, ?_, ?_⟩
  · show q1 p = q1 p + q3 p - q3 p
    omega
  · show q5 p = if q3 p = q3 p then min (q5 p) (q2 p) else 0
    rw [if_pos rfl]
    unfold vP at hv
    omega
  · show q6 p = if qe p = q3 p + q2 p then min (q6 p) (q2 p) else 0
    rw [if_pos (show qe p = q3 p + q2 p from rfl)]
    unfold vP at hv
    omega
theorem Mq_ahd {f : Int → Int} {i a : Int} {p : Sp} (h : Fw f i p) (hv : vP p) (h2 : a < qe p) : Mq f (i, ahd p a) := by
  have e : qe (ahd p a) = a := by
    show q3 p + (a - q3 p) = a
    omega
  refine ⟨p, h, hv, rfl, ?_, rfl, ?_, ?_⟩
  · show q1 p = q1 p + q3 p - q3 p
    omega
  · show min (q5 p) (a - q3 p) = if q3 p = q3 p then min (q5 p) (a - q3 p) else 0
    rw [if_pos rfl]
  · show 0 = if qe (ahd p a) = q3 p + q2 p then _ else 0
    rw [if_neg]
    unfold qe at h2
    omega
theorem Mq_frm {f : Int → Int} {i b : Int} {p : Sp} (h : Fw f i p) (hv : vP p) (h1 : q3 p < b) : Mq f (i, frm p b) := by
  have e : qe (frm p b) = q3 p + q2 p := by
    show b + (q2 p - (b - q3 p)) = q3 p + q2 p
    omega
  refine ⟨p, h, hv, rfl, ?_, rfl, ?_, ?_⟩
  · show q1 p + (b - q3 p) = q1 p + b - q3 p
    omega
  · show 0 = if b = q3 p then _ else 0
    rw [if_neg (by omega)]
  · show min (q6 p) (q2 p - (b - q3 p)) = if qe (frm p b) = q3 p + q2 p then min (q6 p) (q2 p - (b - q3 p)) else 0
    rw [if_pos e]
theorem Mq_rs {f : Int → Int} {l : List Sp} {a b g : Int} (hv : ∀ p, p ∈ l → vP p) (hf : ∀ e, e ∈ en 0 l → Fw f e.1 e.2) : ∀ e, e ∈ rs a b g (en 0 l) → Mq f e := by
  intro e he
  obtain ⟨c, f1, f2, f3, f4⟩ := rs_mem he
  have gc := en_mem f1
  have vc := hv c.2 gc.2.2.1
  have fc := hf c f1
  rcases f4 with ⟨z, y⟩ | ⟨z1, z2, z3, z⟩ | ⟨z1, z2, z3, z4, z⟩
  · rw [show e = (c.1, c.2) from Prod.ext f3 z]
    exact Mq_same fc vc
  · rw [show e = (c.1, ahd c.2 a) from Prod.ext f3 z]
    exact Mq_ahd fc vc z3
  · rw [show e = (c.1, frm c.2 b) from Prod.ext f3 z]
    exact Mq_frm fc vc z2
/-! what stays true -/
def vG (l : List Sp) : Prop := SL 0 l ∧ l.length ≤ 12 ∧ ∀ p, p ∈ l → vP p
def vQ (K : So) (p : Sp) : Prop := q0 p < K.1 ∧ q1 p + q2 p ≤ K.2.1 (q0 p)
theorem rs_all {W : Sp → Prop} {l : List Sp} {a b g : Int} (h1 : ∀ p, p ∈ l → W p) (h2 : ∀ p a, W p → q3 p < a → a < qe p → W (ahd p a)) (h3 : ∀ p b, W p → q3 p < b → b < qe p → W (frm p b)) : ∀ e, e ∈ rs a b g (en 0 l) → W e.2 := by
  intro e he
  obtain ⟨c, f1, f2, f3, f4⟩ := rs_mem he
  have wc := h1 c.2 (en_mem f1).2.2.1
  rcases f4 with ⟨z, y⟩ | ⟨z1, z2, z3, z⟩ | ⟨z1, z2, z3, z4, z⟩
  · rw [z]
    exact wc
  · rw [z]
    exact h2 _ _ wc z2 z3
  · rw [z]
    exact h3 _ _ wc z2 z3
theorem vQ_ahd {K : So} {p : Sp} {a : Int} (h : vQ K p) (h2 : a < qe p) : vQ K (ahd p a) := by
  refine ⟨h.1, ?_⟩
  have := h.2
  show q1 p + (a - q3 p) ≤ K.2.1 (q0 p)
  unfold qe at h2
  omega
theorem vQ_frm {K : So} {p : Sp} {b : Int} (h : vQ K p) : vQ K (frm p b) := by
  refine ⟨h.1, ?_⟩
  have := h.2
  show q1 p + (b - q3 p) + (q2 p - (b - q3 p)) ≤ K.2.1 (q0 p)
  omega
/-! the calls -/
def upT (T : Tr) (k : Int) (v : Tk × List Tk × Int) : Tr := fun j => if j = k then v else T j
def hst (t : Tk) (h : List Tk) : List Tk := (t :: h).take 4
def nwT (T : Tr) (k : Int) (t : Tk) : Tr := upT T k (t, hst (T k).1 (T k).2.1, (T k).2.2)
def lyT (T : Tr) (k : Int) (R : List (Int × Sp)) : Int × Tr := if 12 < R.length then (-2000000003, T) else (R.length, nwT T k (R.map Prod.snd, (T k).1.2))
def spA (l : List Sp) (i : Int) : Sp := (l[i.toNat]?).getD (0, 0, 0, 0, 0, 0, 0)
def oPut (K : So) (T : Tr) (k s f m t : Int) : Int × Tr := if ¬ ((0 ≤ k ∧ k ≤ 3) ∧ 0 ≤ s ∧ s < K.1) then (-2000000001, T) else if ¬ ((0 ≤ f ∧ f < K.2.1 s) ∧ (1 ≤ m ∧ m ≤ K.2.1 s - f) ∧ 0 ≤ t ∧ t ≤ 128 - m) then (-2000000002, T) else lyT T k (layR (T k).1.1 (s, f, m, t, 8, 0, 0) (-1))
def oWipe (T : Tr) (k a b : Int) : Int × Tr := if ¬ (0 ≤ k ∧ k ≤ 3) then (-2000000001, T) else if ¬ ((0 ≤ a ∧ a ≤ 127) ∧ a ≤ b ∧ b ≤ 128) then (-2000000002, T) else lyT T k (clrR (T k).1.1 a b)
def oCut (T : Tr) (k x : Int) : Int × Tr := if ¬ (0 ≤ k ∧ k ≤ 3) then (-2000000001, T) else if ¬ (1 ≤ x ∧ x ≤ 127) then (-2000000002, T) else if oR (en 0 (T k).1.1) x = -1 ∨ q3 (spA (T k).1.1 (oR (en 0 (T k).1.1) x)) = x then (-2000000003, T) else lyT T k (cutR (T k).1.1 x (oR (en 0 (T k).1.1) x) (spA (T k).1.1 (oR (en 0 (T k).1.1) x)))
def isSp (T : Tr) (k i : Int) : Prop := (0 ≤ k ∧ k ≤ 3) ∧ 0 ≤ i ∧ i < (T k).1.1.length
def mvd (p : Sp) (t : Int) : Sp := (q0 p, q1 p, q2 p, t, q4 p, q5 p, q6 p)
def fdd (p : Sp) (a b : Int) : Sp := (q0 p, q1 p, q2 p, q3 p, q4 p, a, b)
def gnd (p : Sp) (g : Int) : Sp := (q0 p, q1 p, q2 p, q3 p, g, q5 p, q6 p)
noncomputable def oMove (T : Tr) (k i t : Int) : Int × Tr := if ¬ ((0 ≤ k ∧ k ≤ 3) ∧ 0 ≤ i ∧ i < (T k).1.1.length) then (-2000000001, T) else if ¬ (0 ≤ t ∧ t ≤ 128 - q2 (spA (T k).1.1 i)) then (-2000000002, T) else lyT T k (layR (T k).1.1 (mvd (spA (T k).1.1 i) t) i)
def stL (l : List Sp) (i : Int) (p : Sp) : List Sp := l.set i.toNat p
def oFade (T : Tr) (k i a b : Int) : Int × Tr := if ¬ ((0 ≤ k ∧ k ≤ 3) ∧ 0 ≤ i ∧ i < (T k).1.1.length) then (-2000000001, T) else if ¬ (0 ≤ a ∧ 0 ≤ b ∧ a + b ≤ q2 (spA (T k).1.1 i)) then (-2000000002, T) else (q5 (spA (T k).1.1 i), nwT T k (stL (T k).1.1 i (fdd (spA (T k).1.1 i) a b), (T k).1.2))
def oGain (T : Tr) (k i g : Int) : Int × Tr := if ¬ ((0 ≤ k ∧ k ≤ 3) ∧ 0 ≤ i ∧ i < (T k).1.1.length) then (-2000000001, T) else if ¬ (0 ≤ g ∧ g ≤ 16) then (-2000000002, T) else (q4 (spA (T k).1.1 i), nwT T k (stL (T k).1.1 i (gnd (spA (T k).1.1 i) g), (T k).1.2))
def oShift (T : Tr) (k n : Int) : Int × Tr := if ¬ (0 ≤ k ∧ k ≤ 3) then (-2000000001, T) else if ¬ (-16 ≤ n ∧ n ≤ 16) then (-2000000002, T) else ((T k).1.2, nwT T k ((T k).1.1, n))
def oShut (T : Tr) (k : Int) : Int × Tr := if ¬ (0 ≤ k ∧ k ≤ 3) then (-2000000001, T) else (1 - (T k).2.2, upT T k ((T k).1, (T k).2.1, 1 - (T k).2.2))
def oUndo (T : Tr) (k : Int) : Int × Tr := if ¬ (0 ≤ k ∧ k ≤ 3) then (-2000000001, T) else match (T k).2.1 with
  | [] => (-2000000003, T)
  | t :: h => (h.length, upT T k (t, h, (T k).2.2))
def aSp (T : Tr) : Int := (T 0).1.1.length + (T 1).1.1.length + (T 2).1.1.length + (T 3).1.1.length
def oKeep (T : Tr) (P : Kp) (k : Int) : Int × Kp := if ¬ (0 ≤ k ∧ k ≤ 1) then (-2000000002, P) else (aSp T, fun j => if j = k then (1, fun i => ((T i).1, (T i).2.2)) else P j)
def oBack (T : Tr) (P : Kp) (k : Int) : Int × Tr := if ¬ (0 ≤ k ∧ k ≤ 1) then (-2000000002, T) else if (P k).1 = 0 then (-2000000003, T) else (((P k).2 0).1.1.length + ((P k).2 1).1.1.length + ((P k).2 2).1.1.length + ((P k).2 3).1.1.length, fun j => if 0 ≤ j ∧ j ≤ 3 then (((P k).2 j).1, [], ((P k).2 j).2) else T j)
