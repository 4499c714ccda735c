/-! keep and back: the class -/
theorem cW_s {u u' : aS} {B a0 a1 p0 p1 p2 p3 S : Nat} {K : Tk × List Tk × Int} (hB : isB B) (hW : cW u B a0 a1 p0 p1 p2 p3 K) (hS : S = B + 16 ∨ S = B + 18) (hf : fA (fun x => x = S ∨ x = S + 1 ∨ x = B + 7) u u') (h : cT0 u' S) : cW u' B a0 a1 p0 p1 p2 p3 K := by
  obtain ⟨⟨hb1, hb2, ⟨c0, c1, c2, c3, c4, c5, c6, c7⟩, ht⟩, h1, h2, h3, h4⟩ := hW
  have t0 := ht.1.1
  have t1 := ht.1.2.1
  have t2 := ht.1.2.2.1
  have t3 := ht.1.2.2.2.1
  have t4 := ht.1.2.2.2.2.1
  have t5 := ht.1.2.2.2.2.2
  have hl := hB.le
  have st : ∀ t, tA B t → ¬ (t = S ∨ t = S + 1 ∨ t = B + 7) ∧ ¬ (t + 1 = S ∨ t + 1 = S + 1 ∨ t + 1 = B + 7) := by
    intro t ht
    have := tA_b ht
    omega
  refine ⟨⟨?_, ?_, ⟨cT0_f hf (st _ t0).1 (st _ t0).2 c0, cT0_f hf (st _ t1).1 (st _ t1).2 c1, cT0_f hf (st _ t2).1 (st _ t2).2 c2, cT0_f hf (st _ t3).1 (st _ t3).2 c3, cT0_f hf (st _ t4).1 (st _ t4).2 c4, cT0_f hf (st _ t5).1 (st _ t5).2 c5, ?_, ?_⟩, ht⟩, cTk_f hf (st _ t0).1 (st _ t0).2 (fun b _ _ => by omega) h1, cP_f hf (fun b _ _ => by omega) _ _ (fun t hm => ?_) h2, ?_, ?_⟩
  · simp only [(hf.1 B (by omega) _).2.2, (hf.1 (B + 6) (by omega) _).2.2]
    exact hb1
  · simp only [(hf.1 (B + 5) (by omega) _).2.2]
    exact hb2
  · rcases hS with e | e
    · subst e
      exact h
    · exact cT0_f hf (by omega) (by omega) c6
  · rcases hS with e | e
    · exact cT0_f hf (by omega) (by omega) c7
    · subst e
      exact h
  · simp only [List.mem_cons, List.not_mem_nil, or_false] at hm
    rcases hm with e | e | e | e <;> subst e
    · exact st _ t2
    · exact st _ t3
    · exact st _ t4
    · exact st _ t5
  · rw [(hf.1 B (by omega) _).1]
    exact h3
  · rw [(hf.1 B (by omega) _).1]
    exact h4
theorem cW_st {u : aS} {B a0 a1 p0 p1 p2 p3 : Nat} {K : Tk × List Tk × Int} (hW : cW u B a0 a1 p0 p1 p2 p3 K) {k : Int} (k0 : 0 ≤ k) (k1 : k ≤ 1) : hR u (B + 6) k = some (B + 16 + 2 * k.toNat) ∧ cT0 u (B + 16 + 2 * k.toNat) := by
  have e : k = 0 ∨ k = 1 := by omega
  rcases e with e | e
  · subst e
    exact ⟨hW.1.1.2.2.2.2.2.1, hW.1.2.2.1.2.2.2.2.2.2.1⟩
  · subst e
    exact ⟨hW.1.1.2.2.2.2.2.2, hW.1.2.2.1.2.2.2.2.2.2.2⟩
theorem isB.tpk {B : Nat} (h : isB B) {k : Int} (k0 : 0 ≤ k) (k1 : k ≤ 1) : isTp (B + 16 + 2 * k.toNat) := by
  have e : k = 0 ∨ k = 1 := by omega
  rcases e with e | e
  · subst e
    exact h.tp6
  · subst e
    exact h.tp8
theorem k_store {d : Nat} {B : Nat} {K : Tk × List Tk × Int} {k : Int} {u : aS} {Q : aQ} (hB : isB B) (hT : cT1 u B K) (hl : K.1.1.length ≤ 12) (hs : K.2.2 = 0 ∨ K.2.2 = 1) (k0 : 0 ≤ k) (k1 : k ≤ 1) (h : ∀ u', fA (fun a => a = B + 16 + 2 * k.toNat ∨ a = B + 16 + 2 * k.toNat + 1 ∨ a = B + 7) u u' → nx u' = nx u → cT1 u' B K → cTk u' (B + 16 + 2 * k.toNat) K.1 → (∀ j, hI u' (B + 7) j = if j = k then K.2.2 else hI u (B + 7) j) → Q none u') : wpm (d + 2) M_X6_store [vR B, vI k] u Q := by
  obtain ⟨a0, a1, p0, p1, p2, p3, hW⟩ := hT
  have hW : cW u B a0 a1 p0 p1 p2 p3 K := hW
  have kB := hB.k0
  have k6 := hB.k6
  have k7 := hB.k7
  have r0 := hW.1.1.1
  have r5 := hW.1.1.2.2.2.1
  have r6 := hW.1.1.2.2.2.2.1
  have ta0 := hW.1.2.2.2.1.1
  have tp0 := hB.tp ta0
  have hl0 := hB.le
  have b0 := tA_b ta0
  obtain ⟨s1, s2⟩ := cW_st hW k0 k1
  have tps := hB.tpk k0 k1
  have kS := tps.1
  refine e_X6_store rfl (run [] 60 ?_)
  repeat first
    | refine z_gq (by first | omega | (simp [hI_sI, hI_sF, hI_sR, hI_nw, hI_ff, hI_fl, hI_cp]; try omega)) ?_
    | refine z_iq rfl (by first | omega | (simp [hI_sI, hI_sF, hI_sR, hI_nw, hI_ff, hI_fl, hI_cp]; try omega)) (by first | omega | (simp [hI_sI, hI_sF, hI_sR, hI_nw, hI_ff, hI_fl, hI_cp]; try omega)) ?_
    | refine z_kq (kB) ?_
    | refine z_dq (r5) ?_
    | refine z_iq (k6) (by first | omega | (simp [hI_sI, hI_sF, hI_sR, hI_nw, hI_ff, hI_fl, hI_cp]; try omega)) (by first | omega | (simp [hI_sI, hI_sF, hI_sR, hI_nw, hI_ff, hI_fl, hI_cp]; try omega)) ?_
    | refine z_dq (s1) ?_
    | refine z_dq (r0) ?_
    | refine z_kq (kS) ?_
  refine k_copyOf tps tp0 ⟨by omega, by omega, by omega⟩ s2 hW.2.1 (by omega) (fun u1 m1 m2 m3 => ?_)
  have r6' : hR u1 B 6 = some (B + 7) := (m1.1 B (by omega) 6).2.2.trans r6
  have e4 : hI u1 B 4 = K.2.2 := (m1.1 B (by omega) 4).1.trans hW.2.2.2.2
  repeat first
    | refine z_gq (by first | omega | (simp [hI_sI, hI_sF, hI_sR, hI_nw, hI_ff, hI_fl, hI_cp]; try omega)) ?_
    | refine z_iq rfl (by first | omega | (simp [hI_sI, hI_sF, hI_sR, hI_nw, hI_ff, hI_fl, hI_cp]; try omega)) (by first | omega | (simp [hI_sI, hI_sF, hI_sR, hI_nw, hI_ff, hI_fl, hI_cp]; try omega)) ?_
    | refine z_kq (kB) ?_
    | refine z_dq (r6') ?_
    | refine z_iq (k7) (by first | omega | (simp [hI_sI, hI_sF, hI_sR, hI_nw, hI_ff, hI_fl, hI_cp]; try omega)) (by first | omega | (simp [hI_sI, hI_sF, hI_sR, hI_nw, hI_ff, hI_fl, hI_cp]; try omega)) ?_
    | refine z_0q (by rw [e4]; exact hs) ?_
  have hf : fA (fun a => a = B + 16 + 2 * k.toNat ∨ a = B + 16 + 2 * k.toNat + 1 ∨ a = B + 7) u (sI u1 (B + 7) k (hI u1 B 4)) := fA_tr (fA_wk m1 (fun x => by omega)) (fA_sI _ _ _ (by omega))
  have m4 : cTk (sI u1 (B + 7) k (hI u1 B 4)) (B + 16 + 2 * k.toNat) K.1 := cTk_f (p := fun a => a = B + 7) (fA_sI _ _ _ rfl) (by omega) (by omega) (fun b _ _ => by omega) m3
  refine h _ hf m2 ⟨a0, a1, p0, p1, p2, p3, cW_s hB hW (by omega) hf m4.1⟩ m4 (fun j => ?_)
  rw [hI_sI, e4]
  by_cases e : j = k
  · rw [if_pos ⟨rfl, e⟩, if_pos e]
  · rw [if_neg (fun z => e z.2), if_neg e]
    exact (m1.1 (B + 7) (by omega) j).1
theorem k_restore {d : Nat} {B : Nat} {K : Tk × List Tk × Int} {S : Tk} {k z : Int} {u : aS} {Q : aQ} (hB : isB B) (hT : cT1 u B K) (hS : cTk u (B + 16 + 2 * k.toNat) S) (hl : S.1.length ≤ 12) (hz : hI u (B + 7) k = z) (hs : z = 0 ∨ z = 1) (k0 : 0 ≤ k) (k1 : k ≤ 1) (hx : 156 ≤ nx u) (h : ∀ u', fA (fun a => pT B a ∨ nx u ≤ a) u u' → cT1 u' B (S, [], z) → Q none u') : wpm (d + 2) M_X6_restore [vR B, vI k] u Q := by
  obtain ⟨a0, a1, p0, p1, p2, p3, hW⟩ := hT
  have hW : cW u B a0 a1 p0 p1 p2 p3 K := hW
  have kB := hB.k0
  have k6 := hB.k6
  have k7 := hB.k7
  have r0 := hW.1.1.1
  have r5 := hW.1.1.2.2.2.1
  have r6 := hW.1.1.2.2.2.2.1
  have ta0 := hW.1.2.2.2.1.1
  have tp0 := hB.tp ta0
  have ka := tp0.1
  have hl0 := hB.le
  have b0 := tA_b ta0
  obtain ⟨s1, s2⟩ := cW_st hW k0 k1
  have tps := hB.tpk k0 k1
  refine e_X6_restore rfl (run [] 60 ?_)
  repeat first
    | refine z_gq (by first | omega | (simp [hI_sI, hI_sF, hI_sR, hI_nw, hI_ff, hI_fl, hI_cp]; try omega)) ?_
    | refine z_iq rfl (by first | omega | (simp [hI_sI, hI_sF, hI_sR, hI_nw, hI_ff, hI_fl, hI_cp]; try omega)) (by first | omega | (simp [hI_sI, hI_sF, hI_sR, hI_nw, hI_ff, hI_fl, hI_cp]; try omega)) ?_
    | refine z_kq (kB) ?_
    | refine z_dq (r5) ?_
    | refine z_iq (k6) (by first | omega | (simp [hI_sI, hI_sF, hI_sR, hI_nw, hI_ff, hI_fl, hI_cp]; try omega)) (by first | omega | (simp [hI_sI, hI_sF, hI_sR, hI_nw, hI_ff, hI_fl, hI_cp]; try omega)) ?_
    | refine z_dq (s1) ?_
    | refine z_dq (r0) ?_
    | refine z_kq (ka) ?_
  refine k_copyOf tp0 tps ⟨by omega, by omega, by omega⟩ hW.1.2.2.1.1 hS (by omega) (fun u1 m1 m2 m3 => ?_)
  have r6' : hR u1 B 6 = some (B + 7) := (m1.1 B (by omega) 6).2.2.trans r6
  have e4 : hI u1 (B + 7) k = z := (m1.1 (B + 7) (by omega) k).1.trans hz
  repeat first
    | refine z_gq (by first | omega | (simp [hI_sI, hI_sF, hI_sR, hI_nw, hI_ff, hI_fl, hI_cp]; try omega)) ?_
    | refine z_iq rfl (by first | omega | (simp [hI_sI, hI_sF, hI_sR, hI_nw, hI_ff, hI_fl, hI_cp]; try omega)) (by first | omega | (simp [hI_sI, hI_sF, hI_sR, hI_nw, hI_ff, hI_fl, hI_cp]; try omega)) ?_
    | refine z_kq (kB) ?_
    | refine z_dq (r6') ?_
    | refine z_iq (k7) (by first | omega | (simp [hI_sI, hI_sF, hI_sR, hI_nw, hI_ff, hI_fl, hI_cp]; try omega)) (by first | omega | (simp [hI_sI, hI_sF, hI_sR, hI_nw, hI_ff, hI_fl, hI_cp]; try omega)) ?_
    | refine z_0q (by rw [e4]; exact hs) ?_
  rw [e4]
  have hf2 : fA (fun x => x = B) u1 (sI (sI u1 B 4 z) B 3 0) := fA_tr (fA_sI _ _ _ rfl) (fA_sI _ _ _ rfl)
  have hF : fA (fun a => pT B a ∨ nx u ≤ a) u (sI (sI u1 B 4 z) B 3 0) := fA_tr (fA_wk m1 (fun x z => pT_t hB ta0 (Nat.le_refl _) (by omega))) (fA_wk hf2 (fun x z => pT_b (Or.inl z)))
  refine h _ hF ⟨a0, a1, p0, p1, p2, p3, ?_, cTk_f hf2 (by omega) (by omega) (fun b _ _ => by omega) m3, trivial, ?_, ?_⟩
  · obtain ⟨⟨hb1, hb2, ⟨c0, c1, c2, c3, c4, c5, c6, c7⟩, ht⟩, _⟩ := hW
    have t0 := ht.1.1
    have t1 := ht.1.2.1
    have t2 := ht.1.2.2.1
    have t3 := ht.1.2.2.2.1
    have t4 := ht.1.2.2.2.2.1
    have t5 := ht.1.2.2.2.2.2
    have c6' : cT0 u1 (B + 16) := cT0_f m1 (by omega) (by omega) c6
    have c7' : cT0 u1 (B + 18) := cT0_f m1 (by omega) (by omega) c7
    have st : ∀ t, tA B t → ¬ a0 = t → cT0 u t → cT0 u1 t := by
      intro t ht hne hc
      have := tA_n t0 ht hne
      have := tA_b ht
      exact cT0_f m1 (by omega) (by omega) hc
    refine ⟨?_, ?_, ⟨m3.1, st _ t1 ht.2.1.1 c1, st _ t2 ht.2.1.2.1 c2, st _ t3 ht.2.1.2.2.1 c3, st _ t4 ht.2.1.2.2.2.1 c4, st _ t5 ht.2.1.2.2.2.2 c5, c6', c7'⟩, ht⟩
    · show (hR u1 B 0 = _ ∧ hR u1 B 1 = _ ∧ hR u1 B 2 = _ ∧ hR u1 B 5 = _ ∧ hR u1 B 6 = _ ∧ hR u1 (B + 6) 0 = _ ∧ hR u1 (B + 6) 1 = _)
      simp only [(m1.1 B (by omega) _).2.2, (m1.1 (B + 6) (by omega) _).2.2]
      exact hb1
    · show (hR u1 (B + 5) 0 = _ ∧ hR u1 (B + 5) 1 = _ ∧ hR u1 (B + 5) 2 = _ ∧ hR u1 (B + 5) 3 = _)
      simp only [(m1.1 (B + 5) (by omega) _).2.2]
      exact hb2
  · rw [hI_sI, if_pos ⟨rfl, rfl⟩]
    rfl
  · rw [hI_sI, if_neg (by omega), hI_sI, if_pos ⟨rfl, rfl⟩]
theorem k_nowcount {u : aS} {A : Al} (hA : cA u A) {k : Int} (k0 : 0 ≤ k) (k1 : k ≤ 3) : ∃ a0, hR u (50 + 20 * k.toNat) 0 = some a0 ∧ isTp a0 ∧ cTk u a0 (A.2.2.2.1 k).1 := by
  obtain ⟨a0, a1, p0, p1, p2, p3, hW⟩ := hA.2.2.2.2.2.1 k k0 k1
  exact ⟨a0, hW.1.1.1, (isB_k k0 k1).tp hW.1.2.2.2.1.1, hW.2.1⟩
def sm (g : Int → Int) : Nat → Int → Int
  | 0, _ => 0
  | n + 1, k => g k + sm g n (k + 1)
theorem w_spansOfAll {d : Nat} {u : aS} {Q : aQ} {A : Al} (hA : cA u A) (hl : ∀ k, 0 ≤ k → k ≤ 3 → (A.2.2.2.1 k).1.1.length ≤ 12) {c s : Nat} : ∀ (n : Nat) (k r : Int), k + n = 4 → 0 ≤ k → 0 ≤ r → r ≤ 12 * k → Q (some (vI (r + sm (fun k => (A.2.2.2.1 k).1.1.length) n k))) u → wp (wpm d) cd_X7_spansOfAll Q 4 [vR 8, vI r, vI k] [] u c s
  | 0, k, r, h1, h2, h3, h4, h => by
    refine run [(4, [])] 60 ?_
    refine z_bq (fun hz => by omega) (fun hz => ?_)
    exact q_eq h (by show r = r + 0; omega)
  | n + 1, k, r, h1, h2, h3, h4, h => by
    have hS := hA.1
    obtain ⟨t, r0, i0, c0⟩ := k_nowcount hA h2 (show k ≤ 3 by omega)
    have kB := (isB_k h2 (show k ≤ 3 by omega)).k0
    have e0 : hI u t 1 = (A.2.2.2.1 k).1.1.length := c0.2.1
    have l0 := hl k h2 (by omega)
    refine run [(4, [])] 60 ?_
    refine z_bq (fun hz => ?_) (fun hz => by omega)
    repeat first
      | refine z_gq (by first | omega | (simp [hI_sI, hI_sF, hI_sR, hI_nw, hI_ff, hI_fl, hI_cp]; try omega)) ?_
      | refine z_iq rfl (by first | omega | (simp [hI_sI, hI_sF, hI_sR, hI_nw, hI_ff, hI_fl, hI_cp]; try omega)) (by first | omega | (simp [hI_sI, hI_sF, hI_sR, hI_nw, hI_ff, hI_fl, hI_cp]; try omega)) ?_
      | refine z_dq (hS.tracks) ?_
      | refine z_dq (hS.track h2 (show k ≤ 3 by omega)) ?_
      | refine z_kq (kB) ?_
      | refine z_dq (r0) ?_
      | refine z_kq (i0.1) ?_
    refine w_spansOfAll hA hl n (k + 1) _ (by omega) (by omega) (by omega) (by omega) ?_
    refine q_eq h ?_
    show r + hI u t 1 + _ = r + ((A.2.2.2.1 k).1.1.length + _)
    rw [e0, Int.add_assoc]
theorem k_spansOfAll {d : Nat} {u : aS} {Q : aQ} {A : Al} (hA : cA u A) (hl : ∀ k, 0 ≤ k → k ≤ 3 → (A.2.2.2.1 k).1.1.length ≤ 12) (h : Q (some (vI (aSp A.2.2.2.1))) u) : wpm (d + 1) M_X7_spansOfAll [vR 8] u Q := by
  refine e_X7_spansOfAll rfl (run [(4, [])] 60 ?_)
  refine w_spansOfAll hA hl 4 0 0 (by omega) (by omega) (by omega) (by omega) (q_eq h ?_)
  show 0 + (((A.2.2.2.1 0).1.1.length : Int) + ((A.2.2.2.1 1).1.1.length + ((A.2.2.2.1 2).1.1.length + ((A.2.2.2.1 3).1.1.length + 0)))) = (A.2.2.2.1 0).1.1.length + (A.2.2.2.1 1).1.1.length + (A.2.2.2.1 2).1.1.length + (A.2.2.2.1 3).1.1.length
  omega
def pK (k : Nat) (a : Nat) : Prop := ∃ j : Nat, j ≤ 3 ∧ (a = 50 + 20 * j + 16 + 2 * k ∨ a = 50 + 20 * j + 16 + 2 * k + 1 ∨ a = 50 + 20 * j + 7)
theorem pK_b {k a : Nat} (hk : k ≤ 1) (h : pK k a) : 57 ≤ a ∧ a ≤ 129 := by
  obtain ⟨j, h1, h2⟩ := h
  omega
theorem w_keepC {d : Nat} {u0 : aS} {Q : aQ} {T : Tr} {kk : Int} (hk : 0 ≤ kk ∧ kk ≤ 1) (hS0 : cS u0) (hV : vTr T) {c s : Nat} (h : ∀ u, fA (pK kk.toNat) u0 u → nx u = nx u0 → cTr u T → (∀ j, 0 ≤ j → j < 4 → cTk u (50 + 20 * j.toNat + 16 + 2 * kk.toNat) (T j).1 ∧ ∀ i, hI u (50 + 20 * j.toNat + 7) i = if i = kk then (T j).2.2 else hI u0 (50 + 20 * j.toNat + 7) i) → wp (wpm (d + 2)) cd_X7_keep Q 35 [vR 8, vI kk, vI 4] [] u c s) : ∀ (n : Nat) (k : Int) (u : aS), k + n = 4 → 0 ≤ k → fA (pK kk.toNat) u0 u → nx u = nx u0 → cTr u T → (∀ j, 0 ≤ j → j < k → cTk u (50 + 20 * j.toNat + 16 + 2 * kk.toNat) (T j).1 ∧ ∀ i, hI u (50 + 20 * j.toNat + 7) i = if i = kk then (T j).2.2 else hI u0 (50 + 20 * j.toNat + 7) i) → (∀ j, k ≤ j → j < 4 → ∀ i, hI u (50 + 20 * j.toNat + 7) i = hI u0 (50 + 20 * j.toNat + 7) i) → wp (wpm (d + 2)) cd_X7_keep Q 14 [vR 8, vI kk, vI k] [] u c s
  | 0, k, u, h1, h2, hf, hn, hT, hj, hi => by
    refine run [(14, []), (35, [])] 60 ?_
    refine z_bq (fun hz => by omega) (fun hz => ?_)
    have e : k = 4 := by omega
    subst e
    exact h u hf hn hT hj
  | n + 1, k, u, h1, h2, hf, hn, hT, hj, hi => by
    have k1 : k ≤ 3 := by omega
    have hS : cS u := cS_f hf (fun a ha => by have := pK_b (by omega) ha; omega) hS0
    have hB := isB_k h2 k1
    have kB := hB.k0
    have hl := hB.le
    refine run [(14, []), (35, [])] 60 ?_
    refine z_bq (fun hz => ?_) (fun hz => by omega)
    repeat first
      | refine z_gq (by first | omega | (simp [hI_sI, hI_sF, hI_sR, hI_nw, hI_ff, hI_fl, hI_cp]; try omega)) ?_
      | refine z_iq rfl (by first | omega | (simp [hI_sI, hI_sF, hI_sR, hI_nw, hI_ff, hI_fl, hI_cp]; try omega)) (by first | omega | (simp [hI_sI, hI_sF, hI_sR, hI_nw, hI_ff, hI_fl, hI_cp]; try omega)) ?_
      | refine z_dq (hS.tracks) ?_
      | refine z_dq (hS.track h2 k1) ?_
      | refine z_kq (kB) ?_
    refine k_store hB (hT k h2 k1) (hV.len h2 k1) (hV k h2 k1).2.2 hk.1 hk.2 (fun u' m1 m2 m3 m4 m5 => ?_)
    repeat first
      | refine z_gq (by first | omega | (simp [hI_sI, hI_sF, hI_sR, hI_nw, hI_ff, hI_fl, hI_cp]; try omega)) ?_
      | refine z_iq rfl (by first | omega | (simp [hI_sI, hI_sF, hI_sR, hI_nw, hI_ff, hI_fl, hI_cp]; try omega)) (by first | omega | (simp [hI_sI, hI_sF, hI_sR, hI_nw, hI_ff, hI_fl, hI_cp]; try omega)) ?_
    have tr : ∀ j, 0 ≤ j → j ≤ 3 → ¬ j = k → cT1 u' (50 + 20 * j.toNat) (T j) := fun j j0 j1 hne => cT1_f m1 (fun a a0 a1 => by omega) (fun b b0 b1 => by omega) (hT j j0 j1)
    refine w_keepC hk hS0 hV h n (k + 1) u' (by omega) (by omega) (fA_tr hf (fA_wk m1 (fun a ha => ⟨k.toNat, by omega, ha⟩))) (m2.trans hn) (fun j j0 j1 => ?_) (fun j j0 j1 => ?_) (fun j j0 j1 i => ?_)
    · by_cases e : j = k
      · subst e
        exact m3
      · exact tr j j0 j1 e
    · by_cases e : j = k
      · subst e
        refine ⟨m4, fun i => ?_⟩
        rw [m5 i, hi j (by omega) (by omega) i]
      · obtain ⟨g1, g2⟩ := hj j j0 (by omega)
        refine ⟨cTk_f m1 (by omega) (by omega) (fun b b0 b1 => by omega) g1, fun i => ?_⟩
        rw [(m1.1 (50 + 20 * j.toNat + 7) (by omega) i).1]
        exact g2 i
    · rw [(m1.1 (50 + 20 * j.toNat + 7) (by omega) i).1]
      exact hi j (by omega) j1 i
theorem k_keep {d : Nat} {k : Int} {u : aS} {Q : aQ} {A : Al} (hA : cA u A) (hV : vTr A.2.2.2.1) (h : ∀ u', cA u' (A.1, A.2.1, A.2.2.1, A.2.2.2.1, (oKeep A.2.2.2.1 A.2.2.2.2 k).2) → fC u u' → Q (some (vI (oKeep A.2.2.2.1 A.2.2.2.2 k).1)) u') : wpm (d + 3) M_X7_keep [vR 8, vI k] u Q := by
  have hS := hA.1
  have hx := hA.2.1
  unfold oKeep at h
  refine e_X7_keep rfl (run [(14, [])] 100 ?_)
  refine k_within (fun k0 k1 => ?_) (fun k0 => ?_)
  · rw [if_neg (by omega)] at h
    refine w_keepC (u0 := u) (T := A.2.2.2.1) ⟨k0, k1⟩ hS hV (fun u1 f1 n1 t1 j1 => ?_) 4 0 u (by omega) (by omega) (fA_rfl _ u) rfl hA.2.2.2.2.2.1 (fun j j0 j1 => by omega) (fun j j0 j1 i => rfl)
    have hS1 : cS u1 := cS_f f1 (fun a ha => by have := pK_b (by omega) ha; omega) hS
    have hpk : ∀ a, pK k.toNat a → 57 ≤ a ∧ a ≤ 129 := fun a ha => pK_b (by omega) ha
    refine run [] 60 ?_
    repeat first
      | refine z_gq (by first | omega | (simp [hI_sI, hI_sF, hI_sR, hI_nw, hI_ff, hI_fl, hI_cp]; try omega)) ?_
      | refine z_iq rfl (by first | omega | (simp [hI_sI, hI_sF, hI_sR, hI_nw, hI_ff, hI_fl, hI_cp]; try omega)) (by first | omega | (simp [hI_sI, hI_sF, hI_sR, hI_nw, hI_ff, hI_fl, hI_cp]; try omega)) ?_
      | refine z_dq (hS1.kept) ?_
    have f2 : fA (fun a => a = 19) u1 (sI u1 19 k 1) := fA_sI _ _ _ rfl
    have hF : fA (fun a => pK k.toNat a ∨ a = 19) u (sI u1 19 k 1) := fA_tr (fA_wk f1 (fun a => Or.inl)) (fA_wk f2 (fun a => Or.inr))
    have hp : ∀ a, (pK k.toNat a ∨ a = 19) → 57 ≤ a ∧ a ≤ 129 ∨ a = 19 := fun a ha => ha.elim (fun z => Or.inl (hpk a z)) Or.inr
    have hA2 : cA (sI u1 19 k 1) (A.1, A.2.1, A.2.2.1, A.2.2.2.1, fun j => if j = k then (1, fun i => ((A.2.2.2.1 i).1, (A.2.2.2.1 i).2.2)) else A.2.2.2.2 j) := by
      refine ⟨cS_f hF (fun a ha => by have := hp a ha; omega) hS, Nat.le_trans hx hF.2, cSo_f hF (fun a ha => by have := hp a ha; omega) hA.2.2.1, cTx_f hF (fun a ha => by have := hp a ha; omega) hA.2.2.2.1, cRk_f hF (fun a ha => by have := hp a ha; omega) hA.2.2.2.2.1, cTr_f f2 (fun a => by omega) (fun b => by omega) t1, fun j j0 jb => ?_⟩
      by_cases e : j = k
      · subst e
        simp only [if_true]
        refine ⟨by rw [hI_sI, if_pos ⟨rfl, rfl⟩], fun _ i i0 i1 => ?_⟩
        obtain ⟨g1, g2⟩ := j1 i i0 (by omega)
        refine ⟨cTk_f f2 (by omega) (by omega) (fun b => by omega) g1, ?_⟩
        rw [hI_sI, if_neg (by omega), g2, if_pos rfl]
      · simp only [if_neg e]
        obtain ⟨d1, d2⟩ := hA.2.2.2.2.2.2 j j0 jb
        refine ⟨by rw [hI_sI, if_neg (fun z => e z.2), (f1.1 19 (fun z => by have := hpk _ z; omega) j).1]; exact d1, fun f i i0 i1 => ⟨?_, ?_⟩⟩
        · refine cTk_f hF (fun z => ?_) (fun z => ?_) (fun b b0 b1 z => by have := hp _ z; omega) (d2 f i i0 i1).1
          · rcases z with ⟨y, y1, y2⟩ | z <;> omega
          · rcases z with ⟨y, y1, y2⟩ | z <;> omega
        · obtain ⟨g1, g2⟩ := j1 i i0 (by omega)
          rw [hI_sI, if_neg (by omega), g2, if_neg e]
          exact (d2 f i i0 i1).2
    refine k_spansOfAll hA2 (fun k k0 k1 => hV.len k0 k1) ?_
    exact h _ hA2 (fA_wk hF (fun a ha => by have := hp a ha; omega))
  · rw [if_pos (by omega)] at h
    exact h u hA (fC_rfl u)
def bkT (T : Tr) (S : Int → Tk × Int) (i : Int) : Tr := fun j => if 0 ≤ j ∧ j < i then ((S j).1, [], (S j).2) else T j
theorem bkT_up (T : Tr) (S : Int → Tk × Int) {i : Int} (h : 0 ≤ i) : upT (bkT T S i) i ((S i).1, [], (S i).2) = bkT T S (i + 1) := by
  funext j
  unfold upT bkT
  by_cases e : j = i
  · subst e
    rw [if_pos rfl, if_pos (by omega)]
  · rw [if_neg e]
    by_cases e2 : 0 ≤ j ∧ j < i
    · rw [if_pos e2, if_pos (by omega)]
    · rw [if_neg e2, if_neg (by omega)]
theorem w_backC {d : Nat} {u0 : aS} {Q : aQ} {A : Al} {kk : Int} (hk : 0 ≤ kk ∧ kk ≤ 1) (hP : vKp A.2.2.2.2) (h1k : (A.2.2.2.2 kk).1 = 1) {c s : Nat} (h : ∀ u, cA u (A.1, A.2.1, A.2.2.1, bkT A.2.2.2.1 (A.2.2.2.2 kk).2 4, A.2.2.2.2) → fC u0 u → wp (wpm (d + 2)) cd_X7_back Q 47 [vR 8, vI kk, vI 4] [] u c s) : ∀ (n : Nat) (k : Int) (u : aS), k + n = 4 → 0 ≤ k → cA u (A.1, A.2.1, A.2.2.1, bkT A.2.2.2.1 (A.2.2.2.2 kk).2 k, A.2.2.2.2) → fC u0 u → wp (wpm (d + 2)) cd_X7_back Q 26 [vR 8, vI kk, vI k] [] u c s
  | 0, k, u, h1, h2, hA, hf => by
    refine run [(26, []), (47, [])] 60 ?_
    refine z_bq (fun hz => by omega) (fun hz => ?_)
    have e : k = 4 := by omega
    subst e
    exact h u hA hf
  | n + 1, k, u, h1, h2, hA, hf => by
    have k1 : k ≤ 3 := by omega
    have hS := hA.1
    have hx := hA.2.1
    have hB := isB_k h2 k1
    have kB := hB.k0
    obtain ⟨d1, d2⟩ := hA.2.2.2.2.2.2 kk hk.1 hk.2
    obtain ⟨g1, g2⟩ := d2 h1k k h2 k1
    obtain ⟨p1, p2⟩ := (hP kk hk.1 hk.2).2 h1k k h2 k1
    refine run [(26, []), (47, [])] 60 ?_
    refine z_bq (fun hz => ?_) (fun hz => by omega)
    repeat first
      | refine z_gq (by first | omega | (simp [hI_sI, hI_sF, hI_sR, hI_nw, hI_ff, hI_fl, hI_cp]; try omega)) ?_
      | refine z_iq rfl (by first | omega | (simp [hI_sI, hI_sF, hI_sR, hI_nw, hI_ff, hI_fl, hI_cp]; try omega)) (by first | omega | (simp [hI_sI, hI_sF, hI_sR, hI_nw, hI_ff, hI_fl, hI_cp]; try omega)) ?_
      | refine z_dq (hS.tracks) ?_
      | refine z_dq (hS.track h2 k1) ?_
      | refine z_kq (kB) ?_
    refine k_restore hB (hA.2.2.2.2.2.1 k h2 k1) g1 p1.1.2.1 g2 p2 hk.1 hk.2 hx (fun u' m1 m2 => ?_)
    repeat first
      | refine z_gq (by first | omega | (simp [hI_sI, hI_sF, hI_sR, hI_nw, hI_ff, hI_fl, hI_cp]; try omega)) ?_
      | refine z_iq rfl (by first | omega | (simp [hI_sI, hI_sF, hI_sR, hI_nw, hI_ff, hI_fl, hI_cp]; try omega)) (by first | omega | (simp [hI_sI, hI_sF, hI_sR, hI_nw, hI_ff, hI_fl, hI_cp]; try omega)) ?_
    have hA2 := cA_tr hA h2 k1 m1 m2
    refine w_backC hk hP h1k h n (k + 1) u' (by omega) (by omega) ?_ (fA_tr hf (fC_pT hB hx m1))
    rw [← bkT_up _ _ h2]
    exact hA2
theorem k_back {d : Nat} {k : Int} {u : aS} {Q : aQ} {A : Al} (hA : cA u A) (hP : vKp A.2.2.2.2) (h : ∀ u', cA u' (A.1, A.2.1, A.2.2.1, (oBack A.2.2.2.1 A.2.2.2.2 k).2, A.2.2.2.2) → fC u u' → Q (some (vI (oBack A.2.2.2.1 A.2.2.2.2 k).1)) u') : wpm (d + 3) M_X7_back [vR 8, vI k] u Q := by
  have hS := hA.1
  unfold oBack at h
  refine e_X7_back rfl (run [(26, [])] 100 ?_)
  refine k_within (fun k0 k1 => ?_) (fun k0 => ?_)
  · rw [if_neg (by omega)] at h
    have d1 := (hA.2.2.2.2.2.2 k k0 k1).1
    obtain ⟨p1, p2⟩ := hP k k0 k1
    repeat first
      | refine z_gq (by first | omega | (simp [hI_sI, hI_sF, hI_sR, hI_nw, hI_ff, hI_fl, hI_cp]; try omega)) ?_
      | refine z_iq rfl (by first | omega | (simp [hI_sI, hI_sF, hI_sR, hI_nw, hI_ff, hI_fl, hI_cp]; try omega)) (by first | omega | (simp [hI_sI, hI_sF, hI_sR, hI_nw, hI_ff, hI_fl, hI_cp]; try omega)) ?_
      | refine z_dq (hS.kept) ?_
    refine z_bq (fun hz => ?_) (fun hz => ?_)
    · rw [if_pos (by omega)] at h
      exact h u hA (fC_rfl u)
    · rw [if_neg (by omega)] at h
      have hk1 : (A.2.2.2.2 k).1 = 1 := by omega
      have e0 : bkT A.2.2.2.1 (A.2.2.2.2 k).2 0 = A.2.2.2.1 := by
        funext j
        unfold bkT
        rw [if_neg (by omega)]
      have e4 : bkT A.2.2.2.1 (A.2.2.2.2 k).2 4 = fun j => if 0 ≤ j ∧ j ≤ 3 then (((A.2.2.2.2 k).2 j).1, [], ((A.2.2.2.2 k).2 j).2) else A.2.2.2.1 j := by
        funext j
        unfold bkT
        by_cases e : 0 ≤ j ∧ j ≤ 3
        · rw [if_pos (by omega), if_pos e]
        · rw [if_neg (by omega), if_neg e]
      refine w_backC (u0 := u) ⟨k0, k1⟩ hP hk1 (fun u2 hA2 f2 => ?_) 4 0 u (by omega) (by omega) (by rw [e0]; exact hA) (fC_rfl u)
      refine run [] 60 ?_
      rw [e4] at hA2
      refine k_spansOfAll hA2 (fun j j0 j1 => ?_) ?_
      · simp only [if_pos (show 0 ≤ j ∧ j ≤ 3 from ⟨j0, j1⟩)]
        exact (p2 hk1 j j0 j1).1.1.2.1
      · exact h u2 hA2 f2
  · rw [if_pos (by omega)] at h
    exact h u hA (fC_rfl u)
