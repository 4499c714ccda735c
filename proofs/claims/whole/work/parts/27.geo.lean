/-! spans on a track: what is left, what is put; runs of moments -/
def qe (p : Sp) : Int := q3 p + q2 p
def vP (p : Sp) : Prop := (0 ≤ q0 p ∧ q0 p ≤ 5) ∧ (0 ≤ q1 p ∧ 1 ≤ q2 p ∧ q1 p + q2 p ≤ 64) ∧ (0 ≤ q3 p ∧ q3 p + q2 p ≤ 128) ∧ (0 ≤ q4 p ∧ q4 p ≤ 16) ∧ 0 ≤ q5 p ∧ 0 ≤ q6 p ∧ q5 p + q6 p ≤ q2 p
def ahd (p : Sp) (a : Int) : Sp := (q0 p, q1 p, a - q3 p, q3 p, q4 p, min (q5 p) (a - q3 p), 0)
def frm (p : Sp) (b : Int) : Sp := (q0 p, q1 p + (b - q3 p), q2 p - (b - q3 p), b, q4 p, 0, min (q6 p) (q2 p - (b - q3 p)))
theorem vP_ahd {p : Sp} {a : Int} (h : vP p) (h1 : q3 p < a) (h2 : a ≤ qe p) : vP (ahd p a) := by
  unfold vP at h
  unfold qe at h2
  show (0 ≤ q0 p ∧ q0 p ≤ 5) ∧ (0 ≤ q1 p ∧ 1 ≤ a - q3 p ∧ q1 p + (a - q3 p) ≤ 64) ∧ (0 ≤ q3 p ∧ q3 p + (a - q3 p) ≤ 128) ∧ (0 ≤ q4 p ∧ q4 p ≤ 16) ∧ 0 ≤ min (q5 p) (a - q3 p) ∧ 0 ≤ (0 : Int) ∧ min (q5 p) (a - q3 p) + 0 ≤ a - q3 p
  omega
theorem vP_frm {p : Sp} {b : Int} (h : vP p) (h1 : q3 p ≤ b) (h2 : b < qe p) : vP (frm p b) := by
  unfold vP at h
  unfold qe at h2
  show (0 ≤ q0 p ∧ q0 p ≤ 5) ∧ (0 ≤ q1 p + (b - q3 p) ∧ 1 ≤ q2 p - (b - q3 p) ∧ q1 p + (b - q3 p) + (q2 p - (b - q3 p)) ≤ 64) ∧ (0 ≤ b ∧ b + (q2 p - (b - q3 p)) ≤ 128) ∧ (0 ≤ q4 p ∧ q4 p ≤ 16) ∧ 0 ≤ (0 : Int) ∧ 0 ≤ min (q6 p) (q2 p - (b - q3 p)) ∧ 0 + min (q6 p) (q2 p - (b - q3 p)) ≤ q2 p - (b - q3 p)
  omega
def en : Int → List Sp → List (Int × Sp)
  | _, [] => []
  | i, p :: l => (i, p) :: en (i + 1) l
def SL : Int → List Sp → Prop
  | _, [] => True
  | lo, p :: r => (lo ≤ q3 p ∧ 1 ≤ q2 p ∧ qe p ≤ 128) ∧ SL (qe p) r
def RS (lo : Int) (R : List (Int × Sp)) : Prop := SL lo (R.map Prod.snd)
def oR : List (Int × Sp) → Int → Int
  | [], _ => -1
  | e :: r, x => if q3 e.2 ≤ x ∧ x < qe e.2 then e.1 else oR r x
def rs (a b g : Int) : List (Int × Sp) → List (Int × Sp)
  | [] => []
  | e :: r => if e.1 = g then rs a b g r else if b ≤ a ∨ qe e.2 ≤ a ∨ b ≤ q3 e.2 then e :: rs a b g r else (if q3 e.2 < a then [(e.1, ahd e.2 a)] else []) ++ ((if b < qe e.2 then [(e.1, frm e.2 b)] else []) ++ rs a b g r)
def ins (q : Int × Sp) : List (Int × Sp) → List (Int × Sp)
  | [] => [q]
  | e :: r => if q3 q.2 < q3 e.2 then q :: e :: r else e :: ins q r
theorem en_snd : ∀ (l : List Sp) (i : Int), (en i l).map Prod.snd = l
  | [], _ => rfl
  | p :: l, i => by
    show p :: (en (i + 1) l).map Prod.snd = p :: l
    rw [en_snd l (i + 1)]
theorem SL_mono : ∀ {l : List Sp} {lo lo' : Int}, lo' ≤ lo → SL lo l → SL lo' l
  | [], _, _, _, _ => trivial
  | p :: l, lo, lo', h, ⟨⟨h1, h2⟩, h3⟩ => ⟨⟨by omega, h2⟩, h3⟩
theorem SL_ge : ∀ {l : List Sp} {lo : Int}, SL lo l → ∀ p, p ∈ l → lo ≤ q3 p ∧ 1 ≤ q2 p ∧ qe p ≤ 128
  | [], _, _, p, hp => by simp at hp
  | q :: l, lo, ⟨h1, h2⟩, p, hp => by
    rcases List.mem_cons.mp hp with e | e
    · subst e
      exact h1
    · have := SL_ge h2 p e
      unfold qe at *
      omega
theorem RS_mono {R : List (Int × Sp)} {lo lo' : Int} (h : lo' ≤ lo) (hR : RS lo R) : RS lo' R := SL_mono h hR
theorem RS_c {e : Int × Sp} {R : List (Int × Sp)} {lo : Int} (h : RS lo (e :: R)) : (lo ≤ q3 e.2 ∧ 1 ≤ q2 e.2 ∧ qe e.2 ≤ 128) ∧ RS (qe e.2) R := h
theorem RS_m {e : Int × Sp} {R : List (Int × Sp)} {lo : Int} (h : lo ≤ q3 e.2 ∧ 1 ≤ q2 e.2 ∧ qe e.2 ≤ 128) (h2 : RS (qe e.2) R) : RS lo (e :: R) := ⟨h, h2⟩
theorem RS_ge {R : List (Int × Sp)} {lo : Int} (h : RS lo R) {e : Int × Sp} (he : e ∈ R) : lo ≤ q3 e.2 ∧ 1 ≤ q2 e.2 ∧ qe e.2 ≤ 128 := SL_ge h e.2 (List.mem_map_of_mem he)
theorem rs_RS {a b g : Int} : ∀ {R : List (Int × Sp)} {lo : Int}, RS lo R → RS lo (rs a b g R)
  | [], _, _ => trivial
  | e :: R, lo, h => by
    obtain ⟨h1, h2⟩ := RS_c h
    have ih := rs_RS (a := a) (b := b) (g := g) h2
    unfold rs
    split
    · refine RS_mono ?_ ih
      unfold qe
      omega
    · split
      · exact RS_m h1 ih
      · rename_i h3
        have ih2 : ∀ lo', lo' ≤ qe e.2 → RS lo' ((if b < qe e.2 then [(e.1, frm e.2 b)] else []) ++ rs a b g R) ∨ ¬ (lo' ≤ b ∨ ¬ b < qe e.2) := by
          intro lo' hl
          split
          · by_cases hb : lo' ≤ b
            · refine Or.inl (RS_m ⟨hb, ?_, ?_⟩ ?_)
              · show 1 ≤ q2 e.2 - (b - q3 e.2)
                unfold qe at *
                omega
              · show b + (q2 e.2 - (b - q3 e.2)) ≤ 128
                unfold qe at *
                omega
              · have e2 : qe (e.1, frm e.2 b).2 = qe e.2 := by
                  show b + (q2 e.2 - (b - q3 e.2)) = q3 e.2 + q2 e.2
                  omega
                rw [e2]
                exact ih
            · exact Or.inr (by omega)
          · exact Or.inl (RS_mono hl ih)
        split
        · refine RS_m ⟨h1.1, ?_, ?_⟩ ?_
          · show 1 ≤ a - q3 e.2
            omega
          · show q3 e.2 + (a - q3 e.2) ≤ 128
            omega
          · have e2 : qe (e.1, ahd e.2 a).2 = a := by
              show q3 e.2 + (a - q3 e.2) = a
              omega
            rw [e2]
            rcases ih2 a (by omega) with h4 | h4
            · exact h4
            · omega
        · rcases ih2 lo (by unfold qe; omega) with h4 | h4
          · exact h4
          · omega
theorem oR_out : ∀ {R : List (Int × Sp)} {lo x : Int}, RS lo R → x < lo → oR R x = -1
  | [], _, _, _, _ => rfl
  | e :: R, lo, x, h, hx => by
    obtain ⟨h1, h2⟩ := RS_c h
    unfold oR
    rw [if_neg (by omega)]
    exact oR_out h2 (by unfold qe; omega)
theorem oR_app : ∀ (R S : List (Int × Sp)) (x : Int), oR (R ++ S) x = if (∃ e, e ∈ R ∧ q3 e.2 ≤ x ∧ x < qe e.2) then oR R x else oR S x
  | [], S, x => by simp
  | e :: R, S, x => by
    show (if q3 e.2 ≤ x ∧ x < qe e.2 then e.1 else oR (R ++ S) x) = if _ then (if q3 e.2 ≤ x ∧ x < qe e.2 then e.1 else oR R x) else _
    by_cases h : q3 e.2 ≤ x ∧ x < qe e.2
    · rw [if_pos h, if_pos ⟨e, List.mem_cons_self .., h⟩, if_pos h]
    · rw [if_neg h, oR_app R S x]
      by_cases h2 : ∃ e, e ∈ R ∧ q3 e.2 ≤ x ∧ x < qe e.2
      · rw [if_pos h2, if_pos (by obtain ⟨f, a, b⟩ := h2; exact ⟨f, List.mem_cons_of_mem _ a, b⟩), if_neg h]
      · rw [if_neg h2, if_neg]
        intro ⟨f, a, b⟩
        rcases List.mem_cons.mp a with e1 | e1
        · subst e1
          exact h b
        · exact h2 ⟨f, e1, b⟩
theorem oR_rs {a b g : Int} : ∀ {R : List (Int × Sp)} {lo : Int} (x : Int), RS lo R → oR (rs a b g R) x = if a ≤ x ∧ x < b then -1 else if oR R x = g then -1 else oR R x
  | [], _, x, _ => by
    unfold rs oR
    split
    · rfl
    · split <;> rfl
  | e :: R, lo, x, h => by
    obtain ⟨h1, h2⟩ := RS_c h
    have ih := oR_rs (a := a) (b := b) (g := g) x h2
    have ho : q3 e.2 ≤ x ∧ x < qe e.2 → oR R x = -1 := fun z => oR_out h2 z.2
    unfold rs
    by_cases hg : e.1 = g
    · rw [if_pos hg, ih]
      show _ = if a ≤ x ∧ x < b then -1 else if (if q3 e.2 ≤ x ∧ x < qe e.2 then e.1 else oR R x) = g then -1 else (if q3 e.2 ≤ x ∧ x < qe e.2 then e.1 else oR R x)
      by_cases hx : q3 e.2 ≤ x ∧ x < qe e.2
      · rw [if_pos hx, if_pos hg, ho hx]
        split
        · rfl
        · split <;> rfl
      · rw [if_neg hx]
    · rw [if_neg hg]
      by_cases hc : b ≤ a ∨ qe e.2 ≤ a ∨ b ≤ q3 e.2
      · rw [if_pos hc]
        show (if q3 e.2 ≤ x ∧ x < qe e.2 then e.1 else oR (rs a b g R) x) = if a ≤ x ∧ x < b then -1 else if (if q3 e.2 ≤ x ∧ x < qe e.2 then e.1 else oR R x) = g then -1 else (if q3 e.2 ≤ x ∧ x < qe e.2 then e.1 else oR R x)
        by_cases hx : q3 e.2 ≤ x ∧ x < qe e.2
        · rw [if_pos hx, if_pos hx, if_neg (by omega), if_neg hg]
        · rw [if_neg hx, if_neg hx, ih]
      · rw [if_neg hc]
        have e2 : ∀ (S : List (Int × Sp)), oR ((if b < qe e.2 then [(e.1, frm e.2 b)] else []) ++ S) x = if b < qe e.2 ∧ b ≤ x ∧ x < qe e.2 then e.1 else oR S x := by
          intro S
          by_cases hb : b < qe e.2
          · rw [if_pos hb]
            show (if b ≤ x ∧ x < b + (q2 e.2 - (b - q3 e.2)) then e.1 else oR S x) = _
            rw [show b + (q2 e.2 - (b - q3 e.2)) = qe e.2 by unfold qe; omega]
            by_cases hx : b ≤ x ∧ x < qe e.2
            · rw [if_pos hx, if_pos ⟨hb, hx⟩]
            · rw [if_neg hx, if_neg (fun z => hx z.2)]
          · rw [if_neg hb, if_neg (fun z => hb z.1)]
            rfl
        have e1 : ∀ (S : List (Int × Sp)), oR ((if q3 e.2 < a then [(e.1, ahd e.2 a)] else []) ++ S) x = if q3 e.2 ≤ x ∧ x < a then e.1 else oR S x := by
          intro S
          by_cases hb : q3 e.2 < a
          · rw [if_pos hb]
            show (if q3 e.2 ≤ x ∧ x < q3 e.2 + (a - q3 e.2) then e.1 else oR S x) = _
            rw [show q3 e.2 + (a - q3 e.2) = a by omega]
          · rw [if_neg hb, if_neg (by omega)]
            rfl
        rw [e1, e2, ih]
        show _ = if a ≤ x ∧ x < b then -1 else if (if q3 e.2 ≤ x ∧ x < qe e.2 then e.1 else oR R x) = g then -1 else (if q3 e.2 ≤ x ∧ x < qe e.2 then e.1 else oR R x)
        by_cases hx : q3 e.2 ≤ x ∧ x < qe e.2
        · rw [if_pos hx, if_neg hg, ho hx]
          by_cases c1 : q3 e.2 ≤ x ∧ x < a
          · rw [if_pos c1, if_neg (by omega)]
          · rw [if_neg c1]
            by_cases c2 : b < qe e.2 ∧ b ≤ x ∧ x < qe e.2
            · rw [if_pos c2, if_neg (by omega)]
            · rw [if_neg c2, if_pos (by omega), if_pos (by omega)]
        · rw [if_neg hx, if_neg (by omega), if_neg (by omega)]
theorem oR_mem : ∀ {R : List (Int × Sp)} {lo x : Int}, RS lo R → ∀ e, e ∈ R → q3 e.2 ≤ x → x < qe e.2 → oR R x = e.1
  | [], _, _, _, e, he, _, _ => by simp at he
  | f :: R, lo, x, h, e, he, h1, h2 => by
    obtain ⟨g1, g2⟩ := RS_c h
    unfold oR
    rcases List.mem_cons.mp he with e1 | e1
    · subst e1
      rw [if_pos ⟨h1, h2⟩]
    · have := RS_ge g2 e1
      rw [if_neg (by omega)]
      exact oR_mem g2 e e1 h1 h2
theorem oR_ex : ∀ {R : List (Int × Sp)} {x : Int}, ¬ oR R x = -1 → ∃ e, e ∈ R ∧ q3 e.2 ≤ x ∧ x < qe e.2 ∧ e.1 = oR R x
  | [], _, h => absurd rfl h
  | e :: R, x, h => by
    unfold oR at h ⊢
    by_cases hx : q3 e.2 ≤ x ∧ x < qe e.2
    · rw [if_pos hx]
      exact ⟨e, List.mem_cons_self .., hx.1, hx.2, rfl⟩
    · rw [if_neg hx] at h ⊢
      obtain ⟨f, a, b⟩ := oR_ex h
      exact ⟨f, List.mem_cons_of_mem _ a, b⟩
theorem RS_u : ∀ {R : List (Int × Sp)} {lo x : Int}, RS lo R → ∀ e f, e ∈ R → f ∈ R → q3 e.2 ≤ x → x < qe e.2 → q3 f.2 ≤ x → x < qe f.2 → e = f
  | [], _, _, _, e, _, he, _, _, _, _, _ => by simp at he
  | g :: R, lo, x, h, e, f, he, hf, h1, h2, h3, h4 => by
    obtain ⟨g1, g2⟩ := RS_c h
    rcases List.mem_cons.mp he with e1 | e1
    · rcases List.mem_cons.mp hf with f1 | f1
      · rw [e1, f1]
      · have := RS_ge g2 f1
        subst e1
        omega
    · rcases List.mem_cons.mp hf with f1 | f1
      · have := RS_ge g2 e1
        subst f1
        omega
      · exact RS_u g2 e f e1 f1 h1 h2 h3 h4
theorem ins_mem {q e : Int × Sp} : ∀ {R : List (Int × Sp)}, e ∈ ins q R ↔ e = q ∨ e ∈ R
  | [] => by simp [ins]
  | f :: R => by
    unfold ins
    split
    · simp
    · simp only [List.mem_cons, ins_mem (R := R)]
      constructor
      · rintro (h | h | h) <;> simp [h]
      · rintro (h | h | h) <;> simp [h]
theorem ins_RS {q : Int × Sp} : ∀ {R : List (Int × Sp)} {lo : Int}, RS lo R → lo ≤ q3 q.2 → 1 ≤ q2 q.2 → qe q.2 ≤ 128 → (∀ e, e ∈ R → qe e.2 ≤ q3 q.2 ∨ qe q.2 ≤ q3 e.2) → RS lo (ins q R)
  | [], lo, _, h1, h2, h3, _ => RS_m ⟨h1, h2, h3⟩ trivial
  | e :: R, lo, h, h1, h2, h3, h4 => by
    obtain ⟨g1, g2⟩ := RS_c h
    have ge := h4 e (List.mem_cons_self ..)
    unfold ins
    split
    · refine RS_m ⟨h1, h2, h3⟩ (RS_m ⟨?_, g1.2⟩ g2)
      rcases ge with z | z
      · unfold qe at z
        omega
      · exact z
    · refine RS_m g1 (ins_RS g2 ?_ h2 h3 (fun f hf => h4 f (List.mem_cons_of_mem _ hf)))
      rcases ge with z | z
      · exact z
      · unfold qe at z
        omega
theorem oR_ins {q : Int × Sp} (x : Int) : ∀ {R : List (Int × Sp)} {lo : Int}, RS lo R → 1 ≤ q2 q.2 → (∀ e, e ∈ R → qe e.2 ≤ q3 q.2 ∨ qe q.2 ≤ q3 e.2) → oR (ins q R) x = if q3 q.2 ≤ x ∧ x < qe q.2 then q.1 else oR R x
  | [], lo, _, _, _ => rfl
  | e :: R, lo, h, h2, h4 => by
    obtain ⟨g1, g2⟩ := RS_c h
    have ge := h4 e (List.mem_cons_self ..)
    unfold ins
    split
    · rfl
    · have ih := oR_ins x g2 h2 (fun f hf => h4 f (List.mem_cons_of_mem _ hf))
      show (if q3 e.2 ≤ x ∧ x < qe e.2 then e.1 else oR (ins q R) x) = if q3 q.2 ≤ x ∧ x < qe q.2 then q.1 else if q3 e.2 ≤ x ∧ x < qe e.2 then e.1 else oR R x
      rw [ih]
      by_cases hx : q3 e.2 ≤ x ∧ x < qe e.2
      · rw [if_pos hx, if_neg, if_pos hx]
        unfold qe at *
        omega
      · rw [if_neg hx, if_neg hx]
theorem rs_mem {a b g : Int} {e' : Int × Sp} : ∀ {R : List (Int × Sp)}, e' ∈ rs a b g R → ∃ e, e ∈ R ∧ ¬ e.1 = g ∧ e'.1 = e.1 ∧ (e'.2 = e.2 ∧ (b ≤ a ∨ qe e.2 ≤ a ∨ b ≤ q3 e.2) ∨ a < b ∧ q3 e.2 < a ∧ a < qe e.2 ∧ e'.2 = ahd e.2 a ∨ a < b ∧ q3 e.2 < b ∧ b < qe e.2 ∧ a < qe e.2 ∧ e'.2 = frm e.2 b)
  | [], h => by simp [rs] at h
  | e :: R, h => by
    have up : e' ∈ rs a b g R → ∃ f, f ∈ e :: R ∧ ¬ f.1 = g ∧ e'.1 = f.1 ∧ (e'.2 = f.2 ∧ (b ≤ a ∨ qe f.2 ≤ a ∨ b ≤ q3 f.2) ∨ a < b ∧ q3 f.2 < a ∧ a < qe f.2 ∧ e'.2 = ahd f.2 a ∨ a < b ∧ q3 f.2 < b ∧ b < qe f.2 ∧ a < qe f.2 ∧ e'.2 = frm f.2 b) := by
      intro hm
      obtain ⟨f, a1, a2⟩ := rs_mem hm
      exact ⟨f, List.mem_cons_of_mem _ a1, a2⟩
    unfold rs at h
    by_cases hg : e.1 = g
    · rw [if_pos hg] at h
      exact up h
    · rw [if_neg hg] at h
      by_cases hc : b ≤ a ∨ qe e.2 ≤ a ∨ b ≤ q3 e.2
      · rw [if_pos hc] at h
        rcases List.mem_cons.mp h with e1 | e1
        · subst e1
          exact ⟨e', List.mem_cons_self .., hg, rfl, Or.inl ⟨rfl, hc⟩⟩
        · exact up e1
      · rw [if_neg hc] at h
        rcases List.mem_append.mp h with h1 | h1
        · by_cases ha : q3 e.2 < a
          · rw [if_pos ha] at h1
            have e1 := List.mem_singleton.mp h1
            refine ⟨e, List.mem_cons_self .., hg, ?_, Or.inr (Or.inl ⟨by omega, ha, by omega, ?_⟩)⟩ <;> rw [e1]
          · rw [if_neg ha] at h1
            simp at h1
        · rcases List.mem_append.mp h1 with h2 | h2
          · by_cases hb : b < qe e.2
            · rw [if_pos hb] at h2
              have e1 := List.mem_singleton.mp h2
              refine ⟨e, List.mem_cons_self .., hg, ?_, Or.inr (Or.inr ⟨by omega, by omega, hb, by omega, ?_⟩)⟩ <;> rw [e1]
            · rw [if_neg hb] at h2
              simp at h2
          · exact up h2
/-! runs -/
def bgb (ow : Int → Int) (cut x : Int) : Bool := decide (¬ ow x = -1) && (decide (x = 0) || decide (x = cut) || decide (¬ ow x = ow (x - 1)))
theorem bgb_t {ow : Int → Int} {cut x : Int} : bgb ow cut x = true ↔ ¬ ow x = -1 ∧ (x = 0 ∨ x = cut ∨ ¬ ow x = ow (x - 1)) := by
  unfold bgb
  simp only [Bool.and_eq_true, Bool.or_eq_true, decide_eq_true_eq, or_assoc]
def Rp (ow : Int → Int) (cut : Int) (R : List (Int × Sp)) : Prop := RS 0 R ∧ (∀ x, 0 ≤ x → x < 128 → ow x = oR R x) ∧ ∀ e, e ∈ R → ¬ e.1 = -1 ∧ (q3 e.2 = 0 ∨ q3 e.2 = cut ∨ ¬ ow (q3 e.2 - 1) = e.1) ∧ (cut ≤ q3 e.2 ∨ qe e.2 ≤ cut)
theorem Rp_o {ow : Int → Int} {cut : Int} {R : List (Int × Sp)} (h : Rp ow cut R) {e : Int × Sp} (he : e ∈ R) {x : Int} (h1 : q3 e.2 ≤ x) (h2 : x < qe e.2) : ow x = e.1 := by
  have g := RS_ge h.1 he
  rw [h.2.1 x (by omega) (by omega)]
  exact oR_mem h.1 e he h1 h2
theorem Rp_b {ow : Int → Int} {cut : Int} {R : List (Int × Sp)} (h : Rp ow cut R) {x : Int} (h0 : 0 ≤ x) (h1 : x < 128) : bgb ow cut x = true ↔ ∃ e, e ∈ R ∧ q3 e.2 = x := by
  rw [bgb_t]
  constructor
  · intro ⟨a, b⟩
    have a' := a
    rw [h.2.1 x h0 h1] at a'
    obtain ⟨e, m1, m2, m3, m4⟩ := oR_ex a'
    refine ⟨e, m1, ?_⟩
    apply Classical.byContradiction
    intro hn
    have g := RS_ge h.1 m1
    have o1 := Rp_o h m1 m2 m3
    have o2 := Rp_o h m1 (x := x - 1) (by omega) (by omega)
    have o3 := (h.2.2 e m1).2.2
    omega
  · intro ⟨e, m1, m2⟩
    have g := RS_ge h.1 m1
    have o1 := Rp_o h m1 (x := x) (by omega) (by unfold qe; omega)
    have o2 := h.2.2 e m1
    rw [m2] at o2
    refine ⟨by omega, ?_⟩
    rcases o2.2.1 with z | z | z
    · exact Or.inl z
    · exact Or.inr (Or.inl z)
    · exact Or.inr (Or.inr (by omega))
theorem Rp_i {ow : Int → Int} {cut : Int} {R : List (Int × Sp)} (h : Rp ow cut R) {e : Int × Sp} (he : e ∈ R) {y : Int} (h1 : q3 e.2 < y) (h2 : y < qe e.2) : ow y = e.1 ∧ bgb ow cut y = false := by
  have g := RS_ge h.1 he
  refine ⟨Rp_o h he (by omega) h2, ?_⟩
  apply Bool.eq_false_iff.mpr
  intro hb
  obtain ⟨f, m1, m2⟩ := (Rp_b h (by omega) (by omega)).mp hb
  have gf := RS_ge h.1 m1
  have := RS_u h.1 e f he m1 (x := y) (by omega) h2 (by omega) (by unfold qe; omega)
  subst this
  omega
theorem Rp_e {ow : Int → Int} {cut : Int} {R : List (Int × Sp)} (h : Rp ow cut R) {e : Int × Sp} (he : e ∈ R) (h1 : qe e.2 < 128) : ow (qe e.2) = e.1 → bgb ow cut (qe e.2) = true := by
  intro ho
  have g := RS_ge h.1 he
  have g2 : qe e.2 = q3 e.2 + q2 e.2 := rfl
  have hn : ¬ oR R (qe e.2) = -1 := by
    rw [← h.2.1 _ (by omega) h1, ho]
    exact (h.2.2 e he).1
  obtain ⟨f, m1, m2, m3, m4⟩ := oR_ex hn
  refine (Rp_b h (by omega) h1).mpr ⟨f, m1, ?_⟩
  apply Classical.byContradiction
  intro hc
  have := RS_u h.1 e f he m1 (x := qe e.2 - 1) (by omega) (by omega) (by omega) (by omega)
  subst this
  omega
theorem cn_R {p : Int → Bool} : ∀ (n : Nat) (x : Int) (R : List (Int × Sp)), x + n = 128 → RS x R → (∀ y, x ≤ y → y < 128 → (p y = true ↔ ∃ e, e ∈ R ∧ q3 e.2 = y)) → cn p n x = R.length
  | 0, x, R, h, hR, hp => by
    cases R with
    | nil => rfl
    | cons e R =>
      obtain ⟨g1, g2⟩ := RS_c hR
      unfold qe at g1
      omega
  | n + 1, x, R, h, hR, hp => by
    rw [cn_s]
    cases R with
    | nil =>
      have e : p x = false := by
        apply Bool.eq_false_iff.mpr
        intro z
        obtain ⟨f, m, _⟩ := (hp x (by omega) (by omega)).mp z
        simp at m
      rw [e, cn_R n (x + 1) [] (by omega) trivial (fun y a b => hp y (by omega) b)]
      rfl
    | cons e R =>
      obtain ⟨g1, g2⟩ := RS_c hR
      have g3 : qe e.2 = q3 e.2 + q2 e.2 := rfl
      by_cases hx : q3 e.2 = x
      · have hb := (hp x (by omega) (by omega)).mpr ⟨e, List.mem_cons_self .., hx⟩
        rw [hb, cn_R n (x + 1) R (by omega) (RS_mono (by omega) g2) (fun y a b => ?_)]
        · simp
          omega
        · rw [hp y (by omega) b]
          constructor
          · intro ⟨f, m1, m2⟩
            rcases List.mem_cons.mp m1 with z | z
            · subst z
              omega
            · exact ⟨f, z, m2⟩
          · intro ⟨f, m1, m2⟩
            exact ⟨f, List.mem_cons_of_mem _ m1, m2⟩
      · have e2 : p x = false := by
          apply Bool.eq_false_iff.mpr
          intro z
          obtain ⟨f, m1, m2⟩ := (hp x (by omega) (by omega)).mp z
          rcases List.mem_cons.mp m1 with y | y
          · subst y
            omega
          · have := RS_ge g2 y
            omega
        rw [e2, cn_R n (x + 1) (e :: R) (by omega) (RS_m ⟨by omega, g1.2⟩ g2) (fun y a b => hp y (by omega) b)]
        simp
theorem Rp_n {ow : Int → Int} {cut : Int} {R : List (Int × Sp)} (h : Rp ow cut R) : cn (bgb ow cut) 128 0 = R.length := cn_R 128 0 R (by omega) h.1 (fun _ h0 h1 => Rp_b h h0 h1)
