/-! tracks: what is laid, of the class -/
theorem rs_l0 {a b g : Int} : ∀ {R : List (Int × Sp)} {lo : Int}, RS lo R → b ≤ lo → (rs a b g R).length ≤ R.length
  | [], _, _, _ => Nat.le_refl _
  | e :: R, lo, h, hb => by
    obtain ⟨h1, h2⟩ := RS_c h
    have ih := rs_l0 (a := a) (b := b) (g := g) h2 (by unfold qe; omega)
    rw [rs_c]
    split
    · simp
      omega
    · rw [if_pos (by omega)]
      simp
      omega
theorem rs_l1 {a b g : Int} : ∀ {R : List (Int × Sp)} {lo : Int}, RS lo R → (rs a b g R).length ≤ R.length + 1
  | [], _, _ => by simp [rs]
  | e :: R, lo, h => by
    obtain ⟨h1, h2⟩ := RS_c h
    have ih := rs_l1 (a := a) (b := b) (g := g) h2
    rw [rs_c]
    split
    · simp
      omega
    · split
      · simp
        omega
      · by_cases hb : b < qe e.2
        · have ih2 := rs_l0 (a := a) (b := b) (g := g) h2 (by omega)
          rw [if_pos hb]
          split <;> simp <;> omega
        · rw [if_neg hb]
          split <;> simp <;> omega
def pT (B a : Nat) : Prop := B ≤ a ∧ a < B + 16 ∧ ¬ a = B + 6 ∧ ¬ a = B + 7
theorem cA_tr {u u' : aS} {A : Al} {k : Int} {v : Tk × List Tk × Int} (hA : cA u A) (k0 : 0 ≤ k) (k1 : k ≤ 3) (hf : fA (fun a => pT (50 + 20 * k.toNat) a ∨ nx u ≤ a) u u') (h : cT1 u' (50 + 20 * k.toNat) v) : cA u' (A.1, A.2.1, A.2.2.1, upT A.2.2.2.1 k v, A.2.2.2.2) := by
  obtain ⟨h1, h2, h3, h4, h5, h6, h7⟩ := hA
  have hp : ∀ a, (pT (50 + 20 * k.toNat) a ∨ nx u ≤ a) → 50 + 20 * k.toNat ≤ a ∧ a < 50 + 20 * k.toNat + 16 ∧ ¬ a = 50 + 20 * k.toNat + 6 ∧ ¬ a = 50 + 20 * k.toNat + 7 ∨ 156 ≤ a ∧ nx u ≤ a := by
    intro a ha
    unfold pT at ha
    omega
  refine ⟨cS_f hf (fun a ha => by have := hp a ha; omega) h1, Nat.le_trans h2 hf.2, cSo_f hf (fun a ha => by have := hp a ha; omega) h3, cTx_f hf (fun a ha => by have := hp a ha; omega) h4, cRk_f hf (fun a ha => by have := hp a ha; omega) h5, fun j j0 j1 => ?_, cKp_f hf (fun ha => by have := hp _ ha; omega) (fun j i _ _ => ⟨fun ha => by have := hp _ ha; omega, fun ha => by have := hp _ ha; omega, fun ha => by have := hp _ ha; omega⟩) (fun b b0 b1 ha => by have := hp _ ha; omega) h7⟩
  by_cases e : j = k
  · subst e
    show cT1 u' _ (upT A.2.2.2.1 j v j)
    unfold upT
    rw [if_pos rfl]
    exact h
  · show cT1 u' _ (upT A.2.2.2.1 k v j)
    unfold upT
    rw [if_neg e]
    exact cT1_f hf (fun a a0 a1 ha => by have := hp _ ha; omega) (fun b b0 b1 ha => by have := hp _ ha; omega) (h6 j j0 j1)
theorem pT_t {B a x : Nat} (hB : isB B) (h : tA B a) {n m : Nat} (hn : n ≤ m) (hx : x = a ∨ x = a + 1 ∨ m ≤ x) : pT B x ∨ n ≤ x := by
  have := tA_b h
  unfold pT
  omega
theorem pT_b {B x n : Nat} (hx : x = B ∨ x = B + 5) : pT B x ∨ n ≤ x := by
  unfold pT
  omega
theorem rs_en_l {l : List Sp} {a b g : Int} (h : SL 0 l) (hl : l.length ≤ 12) : (rs a b g (en 0 l)).length ≤ 13 := by
  have := rs_l1 (a := a) (b := b) (g := g) (RS_en (i := 0) h)
  rw [en_len] at this
  omega
theorem k_lay {d : Nat} {B b : Nat} {K : Tk × List Tk × Int} {p : Sp} {g : Int} {u : aS} {Q : aQ} (hB : isB B) (hT : cT1 u B K) (hx : 156 ≤ nx u) (hG : vG K.1.1) (hp : vP p) (hb : cSp u b p) (h0 : 12 < (layR K.1.1 p g).length → ∀ u', fA (fun a => pT B a ∨ nx u ≤ a) u u' → cT1 u' B K → Q (some (vI 0)) u') (h1 : (layR K.1.1 p g).length ≤ 12 → ∀ u', fA (fun a => pT B a ∨ nx u ≤ a) u u' → cT1 u' B (((layR K.1.1 p g).map Prod.snd, K.1.2), hst K.1 K.2.1, K.2.2) → Q (some (vI 1)) u') : wpm (d + 4) M_X6_lay [vR B, vR b, vI g] u Q := by
  obtain ⟨a0, a1, p0, p1, p2, p3, hW⟩ := hT
  have hW : cW u B a0 a1 p0 p1 p2 p3 K := hW
  have kB := hB.k0
  have kb := kd_s1 hb.1.1
  have r0 := hW.1.1.1
  have r1 := hW.1.1.2.1
  have tt := hW.1.2.2.2
  have ta0 := tt.1.1
  have ta1 := tt.1.2.1
  have tp0 := hB.tp ta0
  have tp1 := hB.tp ta1
  have nn : ¬ a1 = a0 := fun z => tt.2.1.1 z.symm
  have hl := hB.le
  have b1 := tA_b ta1
  have e3 : hI u b 3 = q3 p := hb.2.2.2.2.1
  have hp' := hp
  unfold vP at hp'
  have eq : qe p = q3 p + q2 p := rfl
  have k0 := tp0.1
  have k1 := tp1.1
  refine e_X6_lay rfl (run [] 60 ?_)
  repeat first
    | refine z_gq (by first | omega | (simp [hI_sI, hI_sF, hI_sR, hI_nw, hI_ff, hI_fl, hI_cp]; try omega)) ?_
    | refine z_iq rfl (by first | omega | (simp [hI_sI, hI_sF, hI_sR, hI_nw, hI_ff, hI_fl, hI_cp]; try omega)) (by first | omega | (simp [hI_sI, hI_sF, hI_sR, hI_nw, hI_ff, hI_fl, hI_cp]; try omega)) ?_
    | refine z_kq (kB) ?_
    | refine z_dq (r1) ?_
    | refine z_dq (r0) ?_
    | refine z_kq (kb) ?_
  refine k_end hb hp ?_
  repeat first
    | refine z_gq (by first | omega | (simp [hI_sI, hI_sF, hI_sR, hI_nw, hI_ff, hI_fl, hI_cp]; try omega)) ?_
    | refine z_iq rfl (by first | omega | (simp [hI_sI, hI_sF, hI_sR, hI_nw, hI_ff, hI_fl, hI_cp]; try omega)) (by first | omega | (simp [hI_sI, hI_sF, hI_sR, hI_nw, hI_ff, hI_fl, hI_cp]; try omega)) ?_
    | refine z_kq (k1) ?_
  rw [e3]
  refine z_cq (c' := 0) rfl ?_
  refine z_cq (c' := 0) rfl ?_
  refine k_takeRest tp1 tp0 ⟨nn, tA_n ta1 ta0 nn⟩ (by omega) (by omega) hx hW.1.2.2.1.2.1 hW.2.1 hG.2.1 hG.2.2 (by have := rs_en_l (a := q3 p) (b := qe p) (g := g) hG.1 hG.2.1; omega) (fun u1 m1 m2 => ?_)
  have hW1 := cW_d hB hW hx m1 m2.1
  have hb1 : cSp u1 b p := cSp_f m1 (by have := hb.1; omega) hb
  have r1' := hW1.1.1.2.1
  repeat first
    | refine z_gq (by first | omega | (simp [hI_sI, hI_sF, hI_sR, hI_nw, hI_ff, hI_fl, hI_cp]; try omega)) ?_
    | refine z_iq rfl (by first | omega | (simp [hI_sI, hI_sF, hI_sR, hI_nw, hI_ff, hI_fl, hI_cp]; try omega)) (by first | omega | (simp [hI_sI, hI_sF, hI_sR, hI_nw, hI_ff, hI_fl, hI_cp]; try omega)) ?_
    | refine z_kq (kB) ?_
    | refine z_dq (r1') ?_
    | refine z_kq (k1) ?_
  refine k_insert tp1 m2 (by rw [List.length_map]; exact rs_en_l hG.1 hG.2.1) (rs_RS (RS_en (i := 0) hG.1)) hb1 (fun u2 n1 n2 n3 => ?_)
  have n1' : fA (fun x => x = a1 ∨ x = a1 + 1 ∨ nx u1 ≤ x) u1 u2 := fA_wk n1 (fun x => by omega)
  have hW2 := cW_d hB hW1 (Nat.le_trans hx m1.2) n1' n3.1
  have el : insL p ((rs (q3 p) (qe p) g (en 0 K.1.1)).map Prod.snd) = (layR K.1.1 p g).map Prod.snd := (ins_snd (12, p) _).symm
  rw [el] at n3
  have hF : fA (fun a => pT B a ∨ nx u ≤ a) u u2 := fA_tr (fA_wk m1 (fun x z => pT_t hB ta1 (Nat.le_refl _) z)) (fA_wk n1' (fun x z => pT_t hB ta1 m1.2 z))
  have ll : (layR K.1.1 p g).length ≤ 14 := by
    unfold layR
    rw [ins_len]
    have := rs_en_l (a := q3 p) (b := qe p) (g := g) hG.1 hG.2.1
    omega
  repeat first
    | refine z_gq (by first | omega | (simp [hI_sI, hI_sF, hI_sR, hI_nw, hI_ff, hI_fl, hI_cp]; try omega)) ?_
    | refine z_iq rfl (by first | omega | (simp [hI_sI, hI_sF, hI_sR, hI_nw, hI_ff, hI_fl, hI_cp]; try omega)) (by first | omega | (simp [hI_sI, hI_sF, hI_sR, hI_nw, hI_ff, hI_fl, hI_cp]; try omega)) ?_
    | refine z_kq (kB) ?_
  refine k_accept hB hW2 n3 (by rw [List.length_map]; exact ll) (fun hz => ?_) (fun hz u3 w1 w2 w3 => ?_)
  · rw [List.length_map] at hz
    exact h0 hz u2 hF ⟨a0, a1, p0, p1, p2, p3, hW2⟩
  · rw [List.length_map] at hz
    exact h1 hz u3 (fA_tr hF (fA_wk w1 (fun x z => pT_b z))) ⟨a1, p3, a0, p0, p1, p2, w3⟩
theorem k_clear {d : Nat} {B : Nat} {K : Tk × List Tk × Int} {a b : Int} {u : aS} {Q : aQ} (hB : isB B) (hT : cT1 u B K) (hx : 156 ≤ nx u) (hG : vG K.1.1) (ha : 0 ≤ a ∧ a ≤ 128) (hb : 0 ≤ b ∧ b ≤ 128) (h0 : 12 < (clrR K.1.1 a b).length → ∀ u', fA (fun a => pT B a ∨ nx u ≤ a) u u' → cT1 u' B K → Q (some (vI 0)) u') (h1 : (clrR K.1.1 a b).length ≤ 12 → ∀ u', fA (fun a => pT B a ∨ nx u ≤ a) u u' → cT1 u' B (((clrR K.1.1 a b).map Prod.snd, K.1.2), hst K.1 K.2.1, K.2.2) → Q (some (vI 1)) u') : wpm (d + 4) M_X6_clear [vR B, vI a, vI b] u Q := by
  obtain ⟨a0, a1, p0, p1, p2, p3, hW⟩ := hT
  have hW : cW u B a0 a1 p0 p1 p2 p3 K := hW
  have kB := hB.k0
  have r0 := hW.1.1.1
  have r1 := hW.1.1.2.1
  have tt := hW.1.2.2.2
  have ta0 := tt.1.1
  have ta1 := tt.1.2.1
  have tp0 := hB.tp ta0
  have tp1 := hB.tp ta1
  have nn : ¬ a1 = a0 := fun z => tt.2.1.1 z.symm
  have hl := hB.le
  have b1 := tA_b ta1
  have k1 := tp1.1
  refine e_X6_clear rfl (run [] 60 ?_)
  repeat first
    | refine z_gq (by first | omega | (simp [hI_sI, hI_sF, hI_sR, hI_nw, hI_ff, hI_fl, hI_cp]; try omega)) ?_
    | refine z_iq rfl (by first | omega | (simp [hI_sI, hI_sF, hI_sR, hI_nw, hI_ff, hI_fl, hI_cp]; try omega)) (by first | omega | (simp [hI_sI, hI_sF, hI_sR, hI_nw, hI_ff, hI_fl, hI_cp]; try omega)) ?_
    | refine z_kq (kB) ?_
    | refine z_dq (r1) ?_
    | refine z_dq (r0) ?_
    | refine z_kq (k1) ?_
  refine z_cq (c' := 0) rfl ?_
  refine z_cq (c' := 0) rfl ?_
  refine k_takeRest tp1 tp0 ⟨nn, tA_n ta1 ta0 nn⟩ ha hb hx hW.1.2.2.1.2.1 hW.2.1 hG.2.1 hG.2.2 (by have := rs_en_l (a := a) (b := b) (g := -1) hG.1 hG.2.1; omega) (fun u1 m1 m2 => ?_)
  have hW1 := cW_d hB hW hx m1 m2.1
  have hF : fA (fun a => pT B a ∨ nx u ≤ a) u u1 := fA_wk m1 (fun x z => pT_t hB ta1 (Nat.le_refl _) z)
  have ll : (clrR K.1.1 a b).length ≤ 13 := rs_en_l hG.1 hG.2.1
  repeat first
    | refine z_gq (by first | omega | (simp [hI_sI, hI_sF, hI_sR, hI_nw, hI_ff, hI_fl, hI_cp]; try omega)) ?_
    | refine z_iq rfl (by first | omega | (simp [hI_sI, hI_sF, hI_sR, hI_nw, hI_ff, hI_fl, hI_cp]; try omega)) (by first | omega | (simp [hI_sI, hI_sF, hI_sR, hI_nw, hI_ff, hI_fl, hI_cp]; try omega)) ?_
    | refine z_kq (kB) ?_
  refine k_accept hB hW1 m2 (by rw [List.length_map]; exact Nat.le_trans ll (by omega)) (fun hz => ?_) (fun hz u3 w1 w2 w3 => ?_)
  · rw [List.length_map] at hz
    exact h0 hz u1 hF ⟨a0, a1, p0, p1, p2, p3, hW1⟩
  · rw [List.length_map] at hz
    exact h1 hz u3 (fA_tr hF (fA_wk w1 (fun x z => pT_b z))) ⟨a1, p3, a0, p0, p1, p2, w3⟩
theorem cut_RS1 {l : List Sp} {x : Int} {c : Int × Sp} (hl : SL 0 l) (hc : c ∈ en 0 l) (h1 : q3 c.2 < x) (h2 : x < qe c.2) : RS 0 (ins (c.1, ahd c.2 x) (rs 0 0 c.1 (en 0 l))) := by
  have r0 : RS 0 (en 0 l) := RS_en hl
  have r1 : RS 0 (rs 0 0 c.1 (en 0 l)) := rs_RS r0
  have rc := RS_ge r0 hc
  have eae : qe (ahd c.2 x) = x := by
    show q3 c.2 + (x - q3 c.2) = x
    omega
  refine ins_RS r1 (by show 0 ≤ q3 c.2; omega) (by show 1 ≤ x - q3 c.2; omega) (by show qe (ahd c.2 x) ≤ 128; omega) (fun e he => ?_)
  obtain ⟨f, f1, f2, f3, f4⟩ := rs_mem he
  rcases f4 with ⟨z, y⟩ | ⟨z1, z2, z3, z⟩ | ⟨z1, z2, z3, z4, z⟩
  · have e1 : e = f := Prod.ext f3 z
    subst e1
    have := RS_d r0 f1 hc (fun z => f2 (congrArg Prod.fst z))
    show qe e.2 ≤ q3 c.2 ∨ qe (ahd c.2 x) ≤ q3 e.2
    omega
  · omega
  · omega
theorem k_split {d : Nat} {B : Nat} {K : Tk × List Tk × Int} {x : Int} {u : aS} {Q : aQ} (hB : isB B) (hT : cT1 u B K) (hx : 156 ≤ nx u) (hG : vG K.1.1) (h00 : (oR (en 0 K.1.1) x = -1 ∨ q3 (spA K.1.1 (oR (en 0 K.1.1) x)) = x) → Q (some (vI 0)) u) (h0 : ¬ (oR (en 0 K.1.1) x = -1 ∨ q3 (spA K.1.1 (oR (en 0 K.1.1) x)) = x) → 12 < (cutR K.1.1 x (oR (en 0 K.1.1) x) (spA K.1.1 (oR (en 0 K.1.1) x))).length → ∀ u', fA (fun a => pT B a ∨ nx u ≤ a) u u' → cT1 u' B K → Q (some (vI 0)) u') (h1 : ¬ (oR (en 0 K.1.1) x = -1 ∨ q3 (spA K.1.1 (oR (en 0 K.1.1) x)) = x) → (cutR K.1.1 x (oR (en 0 K.1.1) x) (spA K.1.1 (oR (en 0 K.1.1) x))).length ≤ 12 → ∀ u', fA (fun a => pT B a ∨ nx u ≤ a) u u' → cT1 u' B (((cutR K.1.1 x (oR (en 0 K.1.1) x) (spA K.1.1 (oR (en 0 K.1.1) x))).map Prod.snd, K.1.2), hst K.1 K.2.1, K.2.2) → Q (some (vI 1)) u') : wpm (d + 4) M_X6_split [vR B, vI x] u Q := by
  obtain ⟨a0, a1, p0, p1, p2, p3, hW⟩ := hT
  have hW : cW u B a0 a1 p0 p1 p2 p3 K := hW
  have kB := hB.k0
  have r0 := hW.1.1.1
  have r1 := hW.1.1.2.1
  have tt := hW.1.2.2.2
  have ta0 := tt.1.1
  have ta1 := tt.1.2.1
  have tp0 := hB.tp ta0
  have tp1 := hB.tp ta1
  have nn : ¬ a1 = a0 := fun z => tt.2.1.1 z.symm
  have hl := hB.le
  have b1 := tA_b ta1
  have b0 := tA_b ta0
  have k0 := tp0.1
  have k1 := tp1.1
  have k01 := tp0.2.1
  have ob := own_b (l := K.1.1) x
  refine e_X6_split rfl (run [] 80 ?_)
  repeat first
    | refine z_gq (by first | omega | (simp [hI_sI, hI_sF, hI_sR, hI_nw, hI_ff, hI_fl, hI_cp]; try omega)) ?_
    | refine z_iq rfl (by first | omega | (simp [hI_sI, hI_sF, hI_sR, hI_nw, hI_ff, hI_fl, hI_cp]; try omega)) (by first | omega | (simp [hI_sI, hI_sF, hI_sR, hI_nw, hI_ff, hI_fl, hI_cp]; try omega)) ?_
    | refine z_kq (kB) ?_
    | refine z_dq (r1) ?_
    | refine z_dq (r0) ?_
    | refine z_kq (k0) ?_
    | refine z_kq (k1) ?_
  refine k_indexAt tp0 hW.2.1 hG.2.1 hG.2.2 ?_
  refine z_bq (fun hi => h00 (Or.inl hi)) (fun hi => ?_)
  have sm := spA_mem (l := K.1.1) (i := oR (en 0 K.1.1) x) (by omega) (by omega)
  have hin : q3 (spA K.1.1 (oR (en 0 K.1.1) x)) ≤ x ∧ x < qe (spA K.1.1 (oR (en 0 K.1.1) x)) := (own_iff hG.1 sm.2 x).mp rfl
  have vp := hG.2.2 _ sm.1
  have vp' := vp
  unfold vP at vp'
  have eqe : qe (spA K.1.1 (oR (en 0 K.1.1) x)) = q3 (spA K.1.1 (oR (en 0 K.1.1) x)) + q2 (spA K.1.1 (oR (en 0 K.1.1) x)) := rfl
  obtain ⟨y, y1, y2⟩ := cTk_get hW.2.1 (show 0 ≤ oR (en 0 K.1.1) x by omega) (spA_get (by omega) (by omega))
  have ky := kd_s1 y2.1.1
  have e3 : hI u y 3 = q3 (spA K.1.1 (oR (en 0 K.1.1) x)) := y2.2.2.2.2.1
  have l12 := hG.2.1
  have z1 := hW.2.1.1.1
  repeat first
    | refine z_gq (by first | omega | (simp [hI_sI, hI_sF, hI_sR, hI_nw, hI_ff, hI_fl, hI_cp]; try omega)) ?_
    | refine z_iq rfl (by first | omega | (simp [hI_sI, hI_sF, hI_sR, hI_nw, hI_ff, hI_fl, hI_cp]; try omega)) (by first | omega | (simp [hI_sI, hI_sF, hI_sR, hI_nw, hI_ff, hI_fl, hI_cp]; try omega)) ?_
    | refine z_kq (kB) ?_
    | refine z_dq (r1) ?_
    | refine z_dq (r0) ?_
    | refine z_kq (k0) ?_
    | refine z_kq (k1) ?_
    | refine z_dq (z1) ?_
    | refine z_iq (k01) (by first | omega | (simp [hI_sI, hI_sF, hI_sR, hI_nw, hI_ff, hI_fl, hI_cp]; try omega)) (by first | omega | (simp [hI_sI, hI_sF, hI_sR, hI_nw, hI_ff, hI_fl, hI_cp]; try omega)) ?_
    | refine z_dq (y1) ?_
    | refine z_kq (ky) ?_
  refine z_bq (fun hs => h00 (Or.inr (by omega))) (fun hs => ?_)
  have hlt : q3 (spA K.1.1 (oR (en 0 K.1.1) x)) < x := by omega
  have hno : ¬ (oR (en 0 K.1.1) x = -1 ∨ q3 (spA K.1.1 (oR (en 0 K.1.1) x)) = x) := by omega
  repeat first
    | refine z_gq (by first | omega | (simp [hI_sI, hI_sF, hI_sR, hI_nw, hI_ff, hI_fl, hI_cp]; try omega)) ?_
    | refine z_iq rfl (by first | omega | (simp [hI_sI, hI_sF, hI_sR, hI_nw, hI_ff, hI_fl, hI_cp]; try omega)) (by first | omega | (simp [hI_sI, hI_sF, hI_sR, hI_nw, hI_ff, hI_fl, hI_cp]; try omega)) ?_
    | refine z_kq (kB) ?_
    | refine z_dq (r1) ?_
    | refine z_dq (r0) ?_
    | refine z_kq (k0) ?_
    | refine z_kq (k1) ?_
  refine z_cq (c' := 2) rfl ?_
  refine z_cq (c' := 14) rfl ?_
  refine k_takeRest tp1 tp0 ⟨nn, tA_n ta1 ta0 nn⟩ (by omega) (by omega) hx hW.1.2.2.1.2.1 hW.2.1 hG.2.1 hG.2.2 (by have := rs_en_l (a := 0) (b := 0) (g := oR (en 0 K.1.1) x) hG.1 hG.2.1; omega) (fun u1 m1 m2 => ?_)
  have x1 := Nat.le_trans hx m1.2
  have hW1 := cW_d hB hW hx m1 m2.1
  have y3 : cSp u1 y _ := cSp_f m1 (by have := y2.1; omega) y2
  have r1a := hW1.1.1.2.1
  repeat first
    | refine z_gq (by first | omega | (simp [hI_sI, hI_sF, hI_sR, hI_nw, hI_ff, hI_fl, hI_cp]; try omega)) ?_
    | refine z_iq rfl (by first | omega | (simp [hI_sI, hI_sF, hI_sR, hI_nw, hI_ff, hI_fl, hI_cp]; try omega)) (by first | omega | (simp [hI_sI, hI_sF, hI_sR, hI_nw, hI_ff, hI_fl, hI_cp]; try omega)) ?_
    | refine z_kq (kB) ?_
    | refine z_dq (r1a) ?_
    | refine z_kq (k1) ?_
    | refine z_kq (ky) ?_
  refine z_cq (c' := 1) rfl ?_
  refine z_cq (c' := 7) rfl ?_
  refine k_ahd y3 vp (by omega) (fun u2 n1 n2 n3 => ?_)
  have n1' : fA (fun x => x = a1 ∨ x = a1 + 1 ∨ nx u1 ≤ x) u1 u2 := fA_wk n1 (fun x => by omega)
  have m2b : cTk u2 a1 _ := cTk_f n1 (by omega) (by omega) (fun b _ _ => by omega) m2
  have x2 := Nat.le_trans x1 n1.2
  have hW2 := cW_d hB hW1 x1 n1' m2b.1
  have y4 : cSp u2 y _ := cSp_f n1 (by have := y3.1; omega) y3
  have rl := rs_len1 K.1.1 0 (oR (en 0 K.1.1) x) (by omega) (by omega)
  repeat first
    | refine z_gq (by first | omega | (simp [hI_sI, hI_sF, hI_sR, hI_nw, hI_ff, hI_fl, hI_cp]; try omega)) ?_
    | refine z_iq rfl (by first | omega | (simp [hI_sI, hI_sF, hI_sR, hI_nw, hI_ff, hI_fl, hI_cp]; try omega)) (by first | omega | (simp [hI_sI, hI_sF, hI_sR, hI_nw, hI_ff, hI_fl, hI_cp]; try omega)) ?_
    | refine z_kq (k1) ?_
  refine k_insert tp1 m2b (by rw [List.length_map]; omega) (rs_RS (RS_en (i := 0) hG.1)) n3 (fun u3 o1 o2 o3 => ?_)
  have o1' : fA (fun x => x = a1 ∨ x = a1 + 1 ∨ nx u2 ≤ x) u2 u3 := fA_wk o1 (fun x => by omega)
  have hW3 := cW_d hB hW2 x2 o1' o3.1
  have x3 := Nat.le_trans x2 o1.2
  have y5 : cSp u3 y _ := cSp_f o1 (by have := y4.1; omega) y4
  have r1b := hW3.1.1.2.1
  have e1 : insL (ahd (spA K.1.1 (oR (en 0 K.1.1) x)) x) ((rs 0 0 (oR (en 0 K.1.1) x) (en 0 K.1.1)).map Prod.snd) = (ins (oR (en 0 K.1.1) x, ahd (spA K.1.1 (oR (en 0 K.1.1) x)) x) (rs 0 0 (oR (en 0 K.1.1) x) (en 0 K.1.1))).map Prod.snd := (ins_snd (oR (en 0 K.1.1) x, ahd (spA K.1.1 (oR (en 0 K.1.1) x)) x) _).symm
  rw [e1] at o3
  repeat first
    | refine z_gq (by first | omega | (simp [hI_sI, hI_sF, hI_sR, hI_nw, hI_ff, hI_fl, hI_cp]; try omega)) ?_
    | refine z_iq rfl (by first | omega | (simp [hI_sI, hI_sF, hI_sR, hI_nw, hI_ff, hI_fl, hI_cp]; try omega)) (by first | omega | (simp [hI_sI, hI_sF, hI_sR, hI_nw, hI_ff, hI_fl, hI_cp]; try omega)) ?_
    | refine z_kq (kB) ?_
    | refine z_dq (r1b) ?_
    | refine z_kq (k1) ?_
    | refine z_kq (ky) ?_
  refine z_cq (c' := 0) rfl ?_
  refine z_cq (c' := 0) rfl ?_
  refine k_frm y5 vp (by omega) (fun u4 s1 s2 s3 => ?_)
  have s1' : fA (fun x => x = a1 ∨ x = a1 + 1 ∨ nx u3 ≤ x) u3 u4 := fA_wk s1 (fun x => by omega)
  have o3b : cTk u4 a1 _ := cTk_f s1 (by omega) (by omega) (fun b _ _ => by omega) o3
  have x4 := Nat.le_trans x3 s1.2
  have hW4 := cW_d hB hW3 x3 s1' o3b.1
  repeat first
    | refine z_gq (by first | omega | (simp [hI_sI, hI_sF, hI_sR, hI_nw, hI_ff, hI_fl, hI_cp]; try omega)) ?_
    | refine z_iq rfl (by first | omega | (simp [hI_sI, hI_sF, hI_sR, hI_nw, hI_ff, hI_fl, hI_cp]; try omega)) (by first | omega | (simp [hI_sI, hI_sF, hI_sR, hI_nw, hI_ff, hI_fl, hI_cp]; try omega)) ?_
    | refine z_kq (k1) ?_
  refine k_insert tp1 o3b (by rw [List.length_map, ins_len]; omega) (cut_RS1 (c := (oR (en 0 K.1.1) x, spA K.1.1 (oR (en 0 K.1.1) x))) hG.1 sm.2 hlt hin.2) s3 (fun u5 t1 t2 t3 => ?_)
  have t1' : fA (fun x => x = a1 ∨ x = a1 + 1 ∨ nx u4 ≤ x) u4 u5 := fA_wk t1 (fun x => by omega)
  have hW5 := cW_d hB hW4 x4 t1' t3.1
  have e2 : insL (frm (spA K.1.1 (oR (en 0 K.1.1) x)) x) ((ins (oR (en 0 K.1.1) x, ahd (spA K.1.1 (oR (en 0 K.1.1) x)) x) (rs 0 0 (oR (en 0 K.1.1) x) (en 0 K.1.1))).map Prod.snd) = (cutR K.1.1 x (oR (en 0 K.1.1) x) (spA K.1.1 (oR (en 0 K.1.1) x))).map Prod.snd := (ins_snd (oR (en 0 K.1.1) x, frm (spA K.1.1 (oR (en 0 K.1.1) x)) x) _).symm
  rw [e2] at t3
  have cl := cut_len (l := K.1.1) (x := x) (i := oR (en 0 K.1.1) x) (p := spA K.1.1 (oR (en 0 K.1.1) x)) (by omega) (by omega)
  have hF : fA (fun a => pT B a ∨ nx u ≤ a) u u5 := fA_tr (fA_wk m1 (fun x z => pT_t hB ta1 (Nat.le_refl _) z)) (fA_tr (fA_wk n1' (fun x z => pT_t hB ta1 m1.2 z)) (fA_tr (fA_wk o1' (fun x z => pT_t hB ta1 (Nat.le_trans m1.2 n1.2) z)) (fA_tr (fA_wk s1' (fun x z => pT_t hB ta1 (Nat.le_trans m1.2 (Nat.le_trans n1.2 o1.2)) z)) (fA_wk t1' (fun x z => pT_t hB ta1 (Nat.le_trans m1.2 (Nat.le_trans n1.2 (Nat.le_trans o1.2 s1.2))) z)))))
  repeat first
    | refine z_gq (by first | omega | (simp [hI_sI, hI_sF, hI_sR, hI_nw, hI_ff, hI_fl, hI_cp]; try omega)) ?_
    | refine z_iq rfl (by first | omega | (simp [hI_sI, hI_sF, hI_sR, hI_nw, hI_ff, hI_fl, hI_cp]; try omega)) (by first | omega | (simp [hI_sI, hI_sF, hI_sR, hI_nw, hI_ff, hI_fl, hI_cp]; try omega)) ?_
    | refine z_kq (kB) ?_
  refine k_accept hB hW5 t3 (by rw [List.length_map]; omega) (fun hz => ?_) (fun hz u6 w1 w2 w3 => ?_)
  · rw [List.length_map] at hz
    exact h0 hno hz u5 hF ⟨a0, a1, p0, p1, p2, p3, hW5⟩
  · rw [List.length_map] at hz
    exact h1 hno hz u6 (fA_tr hF (fA_wk w1 (fun x z => pT_b z))) ⟨a1, p3, a0, p0, p1, p2, w3⟩
