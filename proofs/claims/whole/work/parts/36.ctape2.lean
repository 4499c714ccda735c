/-! tapes: the class, the rest -/
def insL (p : Sp) : List Sp → List Sp
  | [] => [p]
  | e :: r => if q3 p < q3 e then p :: e :: r else e :: insL p r
theorem ins_snd (q : Int × Sp) : ∀ (R : List (Int × Sp)), (ins q R).map Prod.snd = insL q.2 (R.map Prod.snd)
  | [] => rfl
  | e :: R => by
    show (if q3 q.2 < q3 e.2 then q :: e :: R else e :: ins q R).map Prod.snd = if q3 q.2 < q3 e.2 then q.2 :: e.2 :: R.map Prod.snd else e.2 :: insL q.2 (R.map Prod.snd)
    split
    · rfl
    · rw [List.map_cons, ins_snd q R]
theorem insL_split {p : Sp} : ∀ (L : List Sp) (j : Nat), j ≤ L.length → (∀ i e, i < j → L[i]? = some e → q3 e ≤ q3 p) → (∀ i e, j ≤ i → L[i]? = some e → q3 p < q3 e) → insL p L = L.take j ++ p :: L.drop j
  | [], j, h, _, _ => by
    simp at h
    subst h
    rfl
  | e :: r, 0, _, _, h2 => by
    unfold insL
    rw [if_pos (h2 0 e (Nat.le_refl _) rfl)]
    rfl
  | e :: r, j + 1, h, h1, h2 => by
    unfold insL
    have := h1 0 e (by omega) rfl
    rw [if_neg (by omega), insL_split r j (by simpa using h) (fun i f hi hf => h1 (i + 1) f (by omega) (by simpa using hf)) (fun i f hi hf => h2 (i + 1) f (by omega) (by simpa using hf))]
    rfl
theorem SL_lt0 : ∀ (L : List Sp) (lo : Int), SL lo L → ∀ (i j : Nat) (e f : Sp), i < j → L[i]? = some e → L[j]? = some f → q3 e < q3 f
  | [], _, _, _, _, _, _, _, h, _ => by simp at h
  | q :: L, lo, hs, i, j, e, f, hij, he, hf => by
    cases j with
    | zero => omega
    | succ j =>
      rw [List.getElem?_cons_succ] at hf
      cases i with
      | zero =>
        have e1 : q = e := by simpa using he
        subst e1
        have hm : f ∈ L := List.mem_of_getElem? hf
        have h1 := SL_ge hs.2 f hm
        have h2 := hs.1
        unfold qe at h1
        omega
      | succ i =>
        rw [List.getElem?_cons_succ] at he
        exact SL_lt0 L _ hs.2 i j e f (by omega) he hf
theorem SL_lt {L : List Sp} {lo : Int} {i j : Nat} {e f : Sp} (hs : SL lo L) (hij : i < j) (he : L[i]? = some e) (hf : L[j]? = some f) : q3 e < q3 f := SL_lt0 L lo hs i j e f hij he hf
theorem get_ins {L : List Sp} {p q : Sp} {j i : Nat} (hj : j ≤ L.length) (h : (L.take j ++ p :: L.drop j)[i]? = some q) : (i < j ∧ L[i]? = some q) ∨ (i = j ∧ q = p) ∨ (j < i ∧ L[i - 1]? = some q) := by
  have hl : (L.take j).length = j := by simp; omega
  by_cases h1 : i < j
  · rw [List.getElem?_append_left (by omega), List.getElem?_take, if_pos h1] at h
    exact Or.inl ⟨h1, h⟩
  · rw [List.getElem?_append_right (by omega), hl] at h
    by_cases h2 : i = j
    · subst h2
      simp at h
      exact Or.inr (Or.inl ⟨rfl, h.symm⟩)
    · have e : i - j = (i - j - 1) + 1 := by omega
      rw [e] at h
      simp at h
      refine Or.inr (Or.inr ⟨by omega, ?_⟩)
      rw [show i - 1 = j + (i - j - 1) by omega]
      exact h
theorem w_insF {d : Nat} {Q : aQ} {t b : Nat} {p : Sp} {L : List Sp} {sh : Int} {u0 : aS} (ht : isTp t) (hK : cTk u0 t (L, sh)) (hl : L.length ≤ 13) (hb : cSp u0 b p) {c s : Nat} {j : Nat} {u : aS} (hj : j ≤ L.length) (hf : fA (fun a => a = t + 1) u0 u) (hn : nx u = nx u0) (hr : ∀ i, 0 ≤ i → i < 14 → hR u (t + 1) i = if i ≤ j then hR u0 (t + 1) i else if i ≤ L.length then hR u0 (t + 1) (i - 1) else hR u0 (t + 1) i) (h1 : ∀ i e, i < j → L[i]? = some e → q3 e ≤ q3 p) (h2 : ∀ i e, j ≤ i → L[i]? = some e → q3 p < q3 e) (h : ∀ u', fA (fun a => a = t ∨ a = t + 1) u0 u' → nx u' = nx u0 → cTk u' t (insL p L, sh) → Q none u') : wp (wpm d) cd_X4_insert Q 57 [vR t, vR b, vI j] [] u c s := by
  obtain ⟨k0, k1, k2⟩ := ht
  have kb := kd_s1 hb.1.1
  obtain ⟨⟨z1, z2⟩, z3, z4, z5⟩ := hK
  have z1' : hR u t 0 = some (t + 1) := (hf.1 t (by omega) 0).2.2.trans z1
  have z3' : hI u t 1 = L.length := (hf.1 t (by omega) 1).1.trans z3
  have z4' : hI u t 2 = sh := (hf.1 t (by omega) 2).1.trans z4
  refine run [] 60 ?_
  repeat first
    | refine z_gq (by first | omega | (simp [hI_sI, hI_sF, hI_sR, hI_nw, hI_ff, hI_fl, hI_cp]; try omega)) ?_
    | refine z_iq rfl (by first | omega | (simp [hI_sI, hI_sF, hI_sR, hI_nw, hI_ff, hI_fl, hI_cp]; try omega)) (by first | omega | (simp [hI_sI, hI_sF, hI_sR, hI_nw, hI_ff, hI_fl, hI_cp]; try omega)) ?_
    | refine z_kq (k0) ?_
    | refine z_iq (k1) (by first | omega | (simp [hI_sI, hI_sF, hI_sR, hI_nw, hI_ff, hI_fl, hI_cp]; try omega)) (by first | omega | (simp [hI_sI, hI_sF, hI_sR, hI_nw, hI_ff, hI_fl, hI_cp]; try omega)) ?_
    | refine z_dq (z1') ?_
    | refine z_kq (kb) ?_
  have ee : hI (sR u (t + 1) j (some b)) t 1 = L.length := z3'
  repeat first
    | refine z_gq (by first | omega | (simp [hI_sI, hI_sF, hI_sR, hI_nw, hI_ff, hI_fl, hI_cp]; try omega)) ?_
    | refine z_iq rfl (by first | omega | (simp [hI_sI, hI_sF, hI_sR, hI_nw, hI_ff, hI_fl, hI_cp]; try omega)) (by first | omega | (simp [hI_sI, hI_sF, hI_sR, hI_nw, hI_ff, hI_fl, hI_cp]; try omega)) ?_
    | refine z_kq (k0) ?_
  have hF : fA (fun a => a = t ∨ a = t + 1) u0 (sI (sR u (t + 1) j (some b)) t 1 (hI (sR u (t + 1) j (some b)) t 1 + 1)) := fA_tr (fA_wk hf (fun a => by omega)) (fA_tr (fA_sR _ _ _ (by omega)) (fA_sI _ _ _ (by omega)))
  have hrr : ∀ i : Int, 0 ≤ i → i < 14 → hR (sI (sR u (t + 1) j (some b)) t 1 (hI (sR u (t + 1) j (some b)) t 1 + 1)) (t + 1) i = if i = j then some b else if i ≤ j then hR u0 (t + 1) i else if i ≤ L.length then hR u0 (t + 1) (i - 1) else hR u0 (t + 1) i := by
    intro i i0 i1
    rw [hR_sI, hR_sR]
    by_cases e : i = j
    · rw [if_pos ⟨rfl, e⟩, if_pos e]
    · rw [if_neg (fun z => e z.2), if_neg e, hr i i0 i1]
  have hs : ∀ c r, cSp u0 c r → cSp (sI (sR u (t + 1) j (some b)) t 1 (hI (sR u (t + 1) j (some b)) t 1 + 1)) c r := by
    intro c r hc
    refine cSp_f hF ?_ hc
    have := hc.1
    omega
  refine h _ hF hn ?_
  rw [insL_split L j hj h1 h2]
  refine ⟨⟨by rw [hR_sI, hR_sR, if_neg (by omega)]; exact z1', fun i c i0 i1 e => ?_⟩, ?_, by rw [hI_sI, if_neg (by omega)]; exact z4', fun i q hq => ?_⟩
  · rw [hrr i i0 i1] at e
    have hx : nx (sI (sR u (t + 1) j (some b)) t 1 (hI (sR u (t + 1) j (some b)) t 1 + 1)) = nx u0 := hn
    rw [hx]
    by_cases e1 : i = j
    · rw [if_pos e1] at e
      have : b = c := by simpa using e
      subst this
      exact hb.1
    · rw [if_neg e1] at e
      by_cases e2 : i ≤ j
      · rw [if_pos e2] at e
        exact z2 i c i0 i1 e
      · rw [if_neg e2] at e
        by_cases e3 : i ≤ L.length
        · rw [if_pos e3] at e
          exact z2 (i - 1) c (by omega) (by omega) e
        · rw [if_neg e3] at e
          exact z2 i c i0 i1 e
  · rw [hI_sI, if_pos ⟨rfl, rfl⟩, ee]
    show _ = ((L.take j ++ p :: L.drop j).length : Int)
    simp
    omega
  · have hq' : (L.take j ++ p :: L.drop j)[i]? = some q := hq
    rcases get_ins hj hq' with ⟨g1, g2⟩ | ⟨g1, g2⟩ | ⟨g1, g2⟩
    · have hi := get_lt g2
      obtain ⟨c, c1, c2⟩ := z5 i q g2
      refine ⟨c, ?_, hs c q c2⟩
      rw [hrr _ (by omega) (by omega), if_neg (by omega), if_pos (by omega)]
      exact c1
    · subst g1
      subst g2
      refine ⟨b, ?_, hs b q hb⟩
      rw [hrr _ (by omega) (by omega), if_pos rfl]
    · have hi := get_lt g2
      obtain ⟨c, c1, c2⟩ := z5 (i - 1) q g2
      refine ⟨c, ?_, hs c q c2⟩
      rw [hrr _ (by omega) (by omega), if_neg (by omega), if_neg (by omega), if_pos (by omega), show (i : Int) - 1 = ((i - 1 : Nat) : Int) by omega]
      exact c1
theorem w_insert {d : Nat} {Q : aQ} {t b : Nat} {p : Sp} {L : List Sp} {sh lo : Int} {u0 : aS} (ht : isTp t) (hK : cTk u0 t (L, sh)) (hl : L.length ≤ 13) (hS : SL lo L) (hb : cSp u0 b p) {c s : Nat} (h : ∀ u', fA (fun a => a = t ∨ a = t + 1) u0 u' → nx u' = nx u0 → cTk u' t (insL p L, sh) → Q none u') : ∀ (j : Nat) (u : aS), j ≤ L.length → fA (fun a => a = t + 1) u0 u → nx u = nx u0 → (∀ i, 0 ≤ i → i < 14 → hR u (t + 1) i = if i ≤ j then hR u0 (t + 1) i else if i ≤ L.length then hR u0 (t + 1) (i - 1) else hR u0 (t + 1) i) → (∀ i e, j ≤ i → L[i]? = some e → q3 p < q3 e) → wp (wpm d) cd_X4_insert Q 15 [vR t, vR b, vI j] [] u c s
  | 0, u, hj, hf, hn, hr, h2 => by
    refine run [(57, [])] 60 ?_
    exact w_insF ht hK hl hb hj hf hn hr (fun i e hi _ => by omega) h2 h
  | j + 1, u, hj, hf, hn, hr, h2 => by
    have hf0 := hf
    have z1 : hR u t 0 = some (t + 1) := (hf.1 t (by omega) 0).2.2.trans hK.1.1
    obtain ⟨k0, k1, k2⟩ := ht
    have kb := kd_s1 hb.1.1
    have hlt : j < L.length := by omega
    obtain ⟨c', c1, c2⟩ := hK.2.2.2 j (L[j]) (by rw [List.getElem?_eq_getElem hlt])
    have g := hr j (by omega) (by omega)
    rw [if_pos (by omega), c1] at g
    have c3 : cSp u c' (L[j]) := cSp_f hf (by have := c2.1; omega) c2
    have b3 : cSp u b p := cSp_f hf (by have := hb.1; omega) hb
    have kc := kd_s1 c3.1.1
    have e1 : hI u c' 3 = q3 (L[j]) := c3.2.2.2.2.1
    have e2 : hI u b 3 = q3 p := b3.2.2.2.2.1
    have jj : ((j + 1 : Nat) : Int) - 1 = (j : Int) := by omega
    have g' : hR u (t + 1) (((j + 1 : Nat) : Int) - 1) = some c' := by
      rw [jj]
      exact g
    refine run [(57, []), (15, [])] 60 ?_
    refine z_bq (fun hz => ?_) (fun hz => by omega)
    repeat first
      | refine z_gq (by first | omega | (simp [hI_sI, hI_sF, hI_sR, hI_nw, hI_ff, hI_fl, hI_cp]; try omega)) ?_
      | refine z_iq rfl (by first | omega | (simp [hI_sI, hI_sF, hI_sR, hI_nw, hI_ff, hI_fl, hI_cp]; try omega)) (by first | omega | (simp [hI_sI, hI_sF, hI_sR, hI_nw, hI_ff, hI_fl, hI_cp]; try omega)) ?_
      | refine z_kq (k0) ?_
      | refine z_iq (k1) (by first | omega | (simp [hI_sI, hI_sF, hI_sR, hI_nw, hI_ff, hI_fl, hI_cp]; try omega)) (by first | omega | (simp [hI_sI, hI_sF, hI_sR, hI_nw, hI_ff, hI_fl, hI_cp]; try omega)) ?_
      | refine z_dq (z1) ?_
      | refine z_dq (g') ?_
      | refine z_kq (kc) ?_
      | refine z_kq (kb) ?_
    refine z_bq (fun hy => ?_) (fun hy => ?_)
    · repeat first
        | refine z_gq (by first | omega | (simp [hI_sI, hI_sF, hI_sR, hI_nw, hI_ff, hI_fl, hI_cp]; try omega)) ?_
        | refine z_iq rfl (by first | omega | (simp [hI_sI, hI_sF, hI_sR, hI_nw, hI_ff, hI_fl, hI_cp]; try omega)) (by first | omega | (simp [hI_sI, hI_sF, hI_sR, hI_nw, hI_ff, hI_fl, hI_cp]; try omega)) ?_
        | refine z_kq (k0) ?_
        | refine z_iq (k1) (by first | omega | (simp [hI_sI, hI_sF, hI_sR, hI_nw, hI_ff, hI_fl, hI_cp]; try omega)) (by first | omega | (simp [hI_sI, hI_sF, hI_sR, hI_nw, hI_ff, hI_fl, hI_cp]; try omega)) ?_
        | refine z_dq (z1) ?_
        | refine z_dq (g') ?_
        | refine z_kq (kc) ?_
        | refine z_kq (kb) ?_
      rw [show ((j + 1 : Nat) : Int) + -1 = (j : Int) by omega]
      refine w_insert ⟨k0, k1, k2⟩ hK hl hS hb h j _ (by omega) (fA_tr hf (fA_sR _ _ _ rfl)) hn (fun i i0 i1 => ?_) (fun i e hi he => ?_)
      · rw [hR_sR]
        by_cases ei : i = ((j + 1 : Nat) : Int)
        · rw [if_pos ⟨rfl, ei⟩, if_neg (by omega), if_pos (by omega), show i - 1 = (j : Int) by omega, c1]
        · rw [if_neg (fun z => ei z.2), hr i i0 i1]
          by_cases e3 : i ≤ j
          · rw [if_pos (by omega), if_pos e3]
          · rw [if_neg (by omega), if_neg e3]
      · by_cases ei : i = j
        · subst ei
          rw [List.getElem?_eq_getElem hlt] at he
          have : L[i] = e := by simpa using he
          rw [← this]
          omega
        · exact h2 i e (by omega) he
    · refine w_insF ⟨k0, k1, k2⟩ hK hl hb hj hf hn hr (fun i e hi he => ?_) h2 h
      by_cases ei : i = j
      · subst ei
        rw [List.getElem?_eq_getElem hlt] at he
        have : L[i] = e := by simpa using he
        rw [← this]
        omega
      · have := SL_lt hS (show i < j by omega) he (List.getElem?_eq_getElem hlt)
        omega
theorem k_insert {d : Nat} {t b : Nat} {p : Sp} {L : List Sp} {sh lo : Int} {u : aS} {Q : aQ} (ht : isTp t) (hK : cTk u t (L, sh)) (hl : L.length ≤ 13) (hS : SL lo L) (hb : cSp u b p) (h : ∀ u', fA (fun a => a = t ∨ a = t + 1) u u' → nx u' = nx u → cTk u' t (insL p L, sh) → Q none u') : wpm (d + 1) M_X4_insert [vR t, vR b] u Q := by
  have k0 := ht.1
  have z3 : hI u t 1 = L.length := hK.2.1
  refine e_X4_insert rfl (run [(15, [])] 60 ?_)
  repeat first
    | refine z_gq (by first | omega | (simp [hI_sI, hI_sF, hI_sR, hI_nw, hI_ff, hI_fl, hI_cp]; try omega)) ?_
    | refine z_iq rfl (by first | omega | (simp [hI_sI, hI_sF, hI_sR, hI_nw, hI_ff, hI_fl, hI_cp]; try omega)) (by first | omega | (simp [hI_sI, hI_sF, hI_sR, hI_nw, hI_ff, hI_fl, hI_cp]; try omega)) ?_
    | refine z_kq (k0) ?_
  refine z_bq (fun hz => ?_) (fun hz => by omega)
  repeat first
    | refine z_gq (by first | omega | (simp [hI_sI, hI_sF, hI_sR, hI_nw, hI_ff, hI_fl, hI_cp]; try omega)) ?_
    | refine z_iq rfl (by first | omega | (simp [hI_sI, hI_sF, hI_sR, hI_nw, hI_ff, hI_fl, hI_cp]; try omega)) (by first | omega | (simp [hI_sI, hI_sF, hI_sR, hI_nw, hI_ff, hI_fl, hI_cp]; try omega)) ?_
    | refine z_kq (k0) ?_
  rw [z3]
  refine w_insert ht hK hl hS hb h L.length u (Nat.le_refl _) (fA_rfl _ u) rfl (fun i i0 i1 => ?_) (fun i e hi he => ?_)
  · by_cases e : i ≤ L.length
    · rw [if_pos e]
    · rw [if_neg e, if_neg e]
  · have := get_lt he
    omega
