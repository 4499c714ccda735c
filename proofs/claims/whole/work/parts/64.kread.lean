/-! the class reads the text -/
/-- of the reader only numbers have changed -/
def fR (u u' : aS) : Prop := fA (fun a => a = 23 ∨ 25 ≤ a ∧ a ≤ 49) u u' ∧ ∀ i, hR u' 23 i = hR u 23 i
theorem fR_rfl (u : aS) : fR u u := ⟨fA_rfl _ u, fun _ => rfl⟩
theorem fR_tr {u v w : aS} (h1 : fR u v) (h2 : fR v w) : fR u w := ⟨fA_tr h1.1 h2.1, fun i => (h2.2 i).trans (h1.2 i)⟩
theorem fR_T {u u' : aS} (h : fT u u') : fR u u' := ⟨fA_wk h.1 (fun a ha => Or.inl ha), h.2.1⟩
theorem fR_sI (u : aS) {a : Nat} (i v : Int) (h : a = 23 ∨ 25 ≤ a ∧ a ≤ 49) : fR u (sI u a i v) := ⟨fA_sI u _ _ h, fun _ => rfl⟩
theorem fR_S {u u' : aS} (h : fR u u') (hS : cS u) : cS u' := cS_h (fun a i ha => by
  by_cases e : a = 23
  · subst e
    exact h.2 i
  · exact (h.1.1 a (by omega) i).2.2) hS
theorem fR_X {u u' : aS} {X : Tx} (h : fR u u') (hK : cTx u X) : cTx u' X := cTx_f h.1 (fun a => by omega) hK
theorem fR_So {u u' : aS} {K : So} (h : fR u u') (hK : cSo u K) : cSo u' K := cSo_f h.1 (fun a => by omega) hK
theorem w_start {d : Nat} {X : Tx} {K : So} {Q : aQ} (hV : vTx X) {c s : Nat} {u0 : aS} (h : ∀ u', fR u0 u' → cTok u' (nxt X 0) → hI u' 23 7 = K.1 → (∀ s, 0 ≤ s → s < 6 → hI u' 49 s = K.2.1 s) → hI u' 23 1 = 0 → Q none u') : ∀ (m : Nat) (i : Int) (u : aS), cS u → cTx u X → cSo u K → fR u0 u → hI u 23 7 = K.1 → (∀ s, 0 ≤ s → s < i → hI u 49 s = K.2.1 s) → i + m = 6 → 0 ≤ i → wp (wpm (d + 2)) cd_X1_startWith Q 10 [vR 23, vR 9, vI i] [] u c s
  | 0, i, u, hS, hK, hO, hf, e7, hs, h1, h0 => by
    have v := hV.1
    refine run [(10, [])] 60 ?_
    refine z_bq (fun hz => by omega) (fun hz => ?_)
    repeat first
      | refine z_gq (by first | omega | (simp [hI_sI, hI_sF, hI_sR, hI_nw, hI_ff, hI_fl, hI_cp]; try omega)) ?_
      | refine z_iq rfl (by first | omega | (simp [hI_sI, hI_sF, hI_sR, hI_nw, hI_ff, hI_fl, hI_cp]; try omega)) (by first | omega | (simp [hI_sI, hI_sF, hI_sR, hI_nw, hI_ff, hI_fl, hI_cp]; try omega)) ?_
    have f1 : fR u (sI (sI u 23 1 0) 23 4 0) := fR_tr (fR_sI u _ _ (Or.inl rfl)) (fR_sI _ _ _ (Or.inl rfl))
    refine k_nextToken (e := 0) (fR_S f1 hS) (fR_X f1 hK) hV (by rw [hI_sI, if_pos ⟨rfl, rfl⟩]) (by omega) (by omega) (fun u' m1 m2 => ?_)
    refine h u' (fR_tr hf (fR_tr f1 (fR_T m1))) m2 ?_ (fun s s0 s1 => ?_) ?_
    · rw [m1.2.2 7 (by omega), hI_sI, if_neg (by omega), hI_sI, if_neg (by omega)]
      exact e7
    · rw [(m1.1.1 49 (by omega) s).1, hI_sI, if_neg (by omega), hI_sI, if_neg (by omega)]
      exact hs s s0 (by omega)
    · rw [m1.2.2 1 (by omega), hI_sI, if_neg (by omega), hI_sI, if_pos ⟨rfl, rfl⟩]
  | m + 1, i, u, hS, hK, hO, hf, e7, hs, h1, h0 => by
    refine run [(10, [])] 60 ?_
    refine z_bq (fun hz => ?_) (fun hz => by omega)
    repeat first
      | refine z_gq (by first | omega | (simp [hI_sI, hI_sF, hI_sR, hI_nw, hI_ff, hI_fl, hI_cp]; try omega)) ?_
      | refine z_iq rfl (by first | omega | (simp [hI_sI, hI_sF, hI_sR, hI_nw, hI_ff, hI_fl, hI_cp]; try omega)) (by first | omega | (simp [hI_sI, hI_sF, hI_sR, hI_nw, hI_ff, hI_fl, hI_cp]; try omega)) ?_
      | refine z_dq (hS.told) ?_
      | refine z_dq (hS.lengths) ?_
    have f1 : fR u (sI u 49 i (hI u 17 i)) := fR_sI u _ _ (by omega)
    refine w_start hV h m (i + 1) _ (fR_S f1 hS) (fR_X f1 hK) (fR_So f1 hO) (fR_tr hf f1) ?_ (fun s s0 s1 => ?_) (by omega) (by omega)
    · rw [hI_sI, if_neg (by omega)]
      exact e7
    · rw [hI_sI]
      by_cases e : s = i
      · rw [if_pos ⟨rfl, e⟩, e]
        exact hO.2.1 i h0 (by omega)
      · rw [if_neg (fun z => e z.2)]
        exact hs s s0 (by omega)
theorem k_startWith {d : Nat} {X : Tx} {K : So} {u : aS} {Q : aQ} (hS : cS u) (hK : cTx u X) (hO : cSo u K) (hV : vTx X) (h : ∀ u', fR u u' → cTok u' (nxt X 0) → hI u' 23 7 = K.1 → (∀ s, 0 ≤ s → s < 6 → hI u' 49 s = K.2.1 s) → hI u' 23 1 = 0 → Q none u') : wpm (d + 3) M_X1_startWith [vR 23, vR 9] u Q := by
  have e := hO.1
  have f1 : fR u (sI u 23 7 (hI u 9 2)) := fR_sI u _ _ (Or.inl rfl)
  refine e_X1_startWith rfl (run [(10, [])] 60 ?_)
  refine w_start (u0 := u) hV h 6 0 _ (fR_S f1 hS) (fR_X f1 hK) (fR_So f1 hO) f1 ?_ (fun s s0 s1 => by omega) (by omega) (by omega)
  rw [hI_sI, if_pos ⟨rfl, rfl⟩]
  exact e
