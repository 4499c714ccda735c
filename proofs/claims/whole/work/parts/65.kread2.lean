/-! the class reads the text: the clauses, one after another -/
theorem vTd_c {X : Tx} {t t' : Tok} {T : Told} (h : pCl X t T = .inr t') (hT : vTd T) : vTd (tCl X t T) := by
  unfold tCl
  by_cases w0 : wh X t = 0
  · rw [if_pos w0]
    exact ⟨⟨Int.le_refl 0, (by show (0 : Int) ≤ 6; decide)⟩, hT.2⟩
  · rw [if_neg w0]
    by_cases w1 : wh X t = 1
    · rw [if_pos w1]
      unfold pCl at h
      rw [w1] at h
      by_cases h6 : 6 ≤ T.1
      · rw [if_pos (Or.inr ⟨rfl, h6⟩)] at h
        cases h
      · rw [if_neg (by omega), if_neg (by omega), if_pos rfl] at h
        unfold pTone at h
        by_cases g1 : isN X (nt X t) 0 200
        · rw [if_pos g1] at h
          by_cases g2 : isN X (nt X (nt X t)) 0 200
          · rw [if_pos g2] at h
            by_cases g3 : isN X (nt X (nt X (nt X t))) 1 64
            · have b : 1 ≤ vl X (nt X (nt X (nt X t))) ∧ vl X (nt X (nt X (nt X t))) ≤ 64 := g3.2
              have b1 := hT.1
              refine ⟨⟨?_, ?_⟩, fun s s0 s1 => ?_⟩
              · show 0 ≤ T.1 + 1
                omega
              · show T.1 + 1 ≤ 6
                omega
              · have b2 := hT.2 s s0 s1
                unfold upF
                show 0 ≤ (if s = T.1 then _ else _) ∧ (if s = T.1 then _ else _) ≤ (64 : Int)
                split <;> omega
            · rw [if_neg g3] at h
              cases h
          · rw [if_neg g2] at h
            cases h
        · rw [if_neg g1] at h
          cases h
    · rw [if_neg w1]
      exact hT
/-- the answer, and how many clauses were read, from clause c on -/
def pAll (X : Tx) : Nat → Int → Tok → Told → Int × Int
  | 0, c, t, _ => (t.1, c)
  | m + 1, c, t, T => match pCl X t T with
    | .inl t' => (t'.1, c)
    | .inr t' => if t'.2.1 = 4 then (-1, c + 1) else if lt X t'.1 = 59 ∧ ¬ c + 1 = 24 then pAll X m (c + 1) (nt X t') (tCl X t T) else (t'.1, c + 1)
/-- where clause n begins, and what has been told there -/
def stn (X : Tx) (T0 : Told) : Nat → Tok × Told
  | 0 => (nxt X 0, T0)
  | n + 1 => match pCl X (stn X T0 n).1 (stn X T0 n).2 with
    | .inl _ => stn X T0 n
    | .inr t' => (nt X t', tCl X (stn X T0 n).1 (stn X T0 n).2)
def kRw (u : aS) (X : Tx) (T0 : Told) (c : Int) : Prop := ∀ n : Nat, (n : Int) < c → rCl X (wh X (stn X T0 n).1) (nt X (stn X T0 n).1) (fun j => hI u (25 + n) j)
theorem kP_R {u u' : aS} {R : Nat} {X : Tx} {t : Tok} {T : Told} {r : Int → Int} (hr : 25 ≤ R ∧ R ≤ 48) (h : kP u u' R X t T r) : fR u u' := ⟨fA_wk h.2.2.2.2.2.2.2.1 (fun a ha => by omega), h.2.2.2.2.2.2.2.2.1⟩
theorem kRw_f {u u' : aS} {X : Tx} {T0 : Told} {i : Int} {p : Nat → Prop} (hf : fA p u u') (hp : ∀ n : Nat, (n : Int) < i → ¬ p (25 + n)) (h : kRw u X T0 i) : kRw u' X T0 i := by
  intro n hn
  have e : (fun j => hI u' (25 + n) j) = fun j => hI u (25 + n) j := funext (fun j => (hf.1 (25 + n) (hp n hn) j).1)
  rw [e]
  exact h n hn
theorem rCl_e {X : Tx} {w : Int} {t : Tok} {r r' : Int → Int} (e : ∀ j, 0 ≤ j → j < 6 → r j = r' j) (h : rCl X w t r') : rCl X w t r := by
  unfold rCl at *
  rw [e 0 (by omega) (by omega), e 1 (by omega) (by omega), e 2 (by omega) (by omega), e 3 (by omega) (by omega), e 4 (by omega) (by omega), e 5 (by omega) (by omega)]
  exact h
theorem w_read {d : Nat} {X : Tx} {T0 : Told} {Q : aQ} (hV : vTx X) {cc ss : Nat} {u0 : aS} {z : Int × Int} (h : ∀ u', fR u0 u' → kRw u' X T0 z.2 → hI u' 23 1 = z.2 → Q (some (vI z.1)) u') : ∀ (m : Nat) (i : Int) (u : aS) (t : Tok) (T : Told), cS u → cTx u X → vTok X t → cTok u t → hI u 23 7 = T.1 → (∀ s, 0 ≤ s → s < 6 → hI u 49 s = T.2 s) → vTd T → hI u 23 1 = i → kRw u X T0 i → fR u0 u → i + m = 24 → 0 ≤ i → stn X T0 i.toNat = (t, T) → pAll X m i t T = z → wp (wpm (d + 7)) cd_X1_read Q 7 [vR 23, vR 9, vI i] [] u cc ss
  | 0, i, u, t, T, hS, hK, hT, ht, e7, hs, hTd, e1, hw, hf, h1, h0, hst, hz => by
    have e3 := ht.1
    replace hz : (t.1, i) = z := hz
    subst hz
    refine run [(7, [])] 60 ?_
    refine z_bq (fun hl => by omega) (fun hl => ?_)
    exact q_eq (h u hf hw e1) e3
  | m + 1, i, u, t, T, hS, hK, hT, ht, e7, hs, hTd, e1, hw, hf, h1, h0, hst, hz => by
    have hr : 25 ≤ 25 + i.toNat ∧ 25 + i.toNat ≤ 48 := by omega
    have hP : kP u u (25 + i.toNat) X t T (fun j => hI u (25 + i.toNat) j) := ⟨hS, hK, hT, ht, e7, hs, fun _ _ _ => rfl, fA_rfl _ u, fun _ => rfl, rfl⟩
    refine run [(7, [])] 60 ?_
    refine z_bq (fun hl => ?_) (fun hl => by omega)
    repeat first
      | refine z_gq (by first | omega | (simp [hI_sI, hI_sF, hI_sR, hI_nw, hI_ff, hI_fl, hI_cp]; try omega)) ?_
      | refine z_iq rfl (by first | omega | (simp [hI_sI, hI_sF, hI_sR, hI_nw, hI_ff, hI_fl, hI_cp]; try omega)) (by first | omega | (simp [hI_sI, hI_sF, hI_sR, hI_nw, hI_ff, hI_fl, hI_cp]; try omega)) ?_
      | refine z_dq (hS.clauses) ?_
      | refine z_dq ((hS.clause h0 hl)) ?_
    refine k_readClause hV hr hP hTd (fun t' m0 u' r' m1 m2 => ?_) (fun t' m0 u' r' T' m1 => ?_)
    · have e4 := m1.2.2.2.1
      have f1 := kP_R hr m1
      have un : pAll X (m + 1) i t T = if t'.2.1 = 4 then (-1, i + 1) else if lt X t'.1 = 59 ∧ ¬ i + 1 = 24 then pAll X m (i + 1) (nt X t') (tCl X t T) else (t'.1, i + 1) := by
        show (match pCl X t T with
          | .inl t' => (t'.1, i)
          | .inr t' => if t'.2.1 = 4 then (-1, i + 1) else if lt X t'.1 = 59 ∧ ¬ i + 1 = 24 then pAll X m (i + 1) (nt X t') (tCl X t T) else (t'.1, i + 1)) = _
        rw [m0]
      rw [un] at hz
      have f2 : fR u (sI u' 23 1 (i + 1)) := fR_tr f1 (fR_sI _ _ _ (Or.inl rfl))
      have w2 : kRw (sI u' 23 1 (i + 1)) X T0 (i + 1) := by
        intro n hn
        by_cases e : n = i.toNat
        · subst e
          rw [hst]
          refine rCl_e (fun j j0 j1 => ?_) m2
          rw [hI_sI, if_neg (by omega)]
          exact m1.row j0 j1
        · refine kRw_f (i := i) (fA_tr m1.2.2.2.2.2.2.2.1 (fA_sI u' _ _ (Or.inl rfl))) (fun n hn => by omega) hw n (by omega)
      have n23 : ∀ k, ¬ k = 1 → hI (sI u' 23 1 (i + 1)) 23 k = hI u' 23 k := fun k hk => by rw [hI_sI, if_neg (by omega)]
      have t2 : cTok (sI u' 23 1 (i + 1)) t' := ⟨(n23 3 (by omega)).trans e4.1, (n23 4 (by omega)).trans e4.2.1, (n23 5 (by omega)).trans e4.2.2⟩
      have a1 : hI (sI u' 23 1 (i + 1)) 23 1 = i + 1 := by rw [hI_sI, if_pos ⟨rfl, rfl⟩]
      have k2 := t2.2.2
      have b2 := t2.1
      have S2 := fR_S f2 hS
      repeat first
        | refine z_gq (by first | omega | (simp [hI_sI, hI_sF, hI_sR, hI_nw, hI_ff, hI_fl, hI_cp]; try omega)) ?_
        | refine z_iq rfl (by first | omega | (simp [hI_sI, hI_sF, hI_sR, hI_nw, hI_ff, hI_fl, hI_cp]; try omega)) (by first | omega | (simp [hI_sI, hI_sF, hI_sR, hI_nw, hI_ff, hI_fl, hI_cp]; try omega)) ?_
      refine z_bq (fun hy => ?_) (fun hy => ?_)
      · rw [if_pos (by omega)] at hz
        subst hz
        exact h _ (fR_tr hf f2) w2 a1
      · rw [if_neg (by omega)] at hz
        repeat first
          | refine z_gq (by first | omega | (simp [hI_sI, hI_sF, hI_sR, hI_nw, hI_ff, hI_fl, hI_cp]; try omega)) ?_
          | refine z_iq rfl (by first | omega | (simp [hI_sI, hI_sF, hI_sR, hI_nw, hI_ff, hI_fl, hI_cp]; try omega)) (by first | omega | (simp [hI_sI, hI_sF, hI_sR, hI_nw, hI_ff, hI_fl, hI_cp]; try omega)) ?_
          | refine z_dq (S2.rtext) ?_
        refine k_letterAt S2 (fR_X f2 hK) hV ?_
        rw [b2]
        refine z_bq (fun hx => ?_) (fun hx => ?_)
        · refine z_bq (fun hq => ?_) (fun hq => ?_)
          · rw [if_neg (by omega)] at hz
            subst hz
            exact q_eq (h _ (fR_tr hf f2) w2 a1) b2
          · rw [if_pos (by omega)] at hz
            have tb := m1.2.2.1.1
            refine k_nextToken S2 (fR_X f2 hK) hV t2.2.1 (by omega) (by omega) (fun u3 m3 m4 => ?_)
            repeat first
              | refine z_gq (by first | omega | (simp [hI_sI, hI_sF, hI_sR, hI_nw, hI_ff, hI_fl, hI_cp]; try omega)) ?_
              | refine z_iq rfl (by first | omega | (simp [hI_sI, hI_sF, hI_sR, hI_nw, hI_ff, hI_fl, hI_cp]; try omega)) (by first | omega | (simp [hI_sI, hI_sF, hI_sR, hI_nw, hI_ff, hI_fl, hI_cp]; try omega)) ?_
            have f3 : fR u u3 := fR_tr f2 (fR_T m3)
            refine w_read hV h m (i + 1) u3 (nt X t') (tCl X t T) (fR_S f3 hS) (fR_X f3 hK) (vTok_t m1.2.2.1) m4 ?_ (fun s s0 s1 => ?_) (vTd_c m0 hTd) ?_ ?_ (fR_tr hf f3) (by omega) (by omega) ?_ hz
            · rw [m3.2.2 7 (by omega), n23 7 (by omega)]
              exact m1.told
            · rw [(m3.1.1 49 (by omega) s).1, hI_sI, if_neg (by omega)]
              exact m1.size s0 s1
            · rw [m3.2.2 1 (by omega)]
              exact a1
            · exact kRw_f m3.1 (fun n hn => by omega) w2
            · rw [show (i + 1).toNat = i.toNat + 1 by omega]
              show (match pCl X (stn X T0 i.toNat).1 (stn X T0 i.toNat).2 with
                | .inl _ => stn X T0 i.toNat
                | .inr t' => (nt X t', tCl X (stn X T0 i.toNat).1 (stn X T0 i.toNat).2)) = _
              rw [hst]
              show (match pCl X t T with
                | .inl _ => (t, T)
                | .inr t' => (nt X t', tCl X t T)) = _
              rw [m0]
        · rw [if_neg (by omega)] at hz
          subst hz
          exact q_eq (h _ (fR_tr hf f2) w2 a1) b2
    · have e3 := m1.2.2.2.1.1
      have un : pAll X (m + 1) i t T = (t'.1, i) := by
        show (match pCl X t T with
          | .inl t' => (t'.1, i)
          | .inr t' => if t'.2.1 = 4 then (-1, i + 1) else if lt X t'.1 = 59 ∧ ¬ i + 1 = 24 then pAll X m (i + 1) (nt X t') (tCl X t T) else (t'.1, i + 1)) = _
        rw [m0]
      rw [un] at hz
      subst hz
      exact q_eq (h u' (fR_tr hf (kP_R hr m1)) (kRw_f m1.2.2.2.2.2.2.2.1 (fun n hn => by omega) hw) (m1.2.2.2.2.2.2.2.2.2.trans e1)) e3
theorem k_read {d : Nat} {X : Tx} {K : So} {u : aS} {Q : aQ} (hS : cS u) (hK : cTx u X) (hO : cSo u K) (hV : vTx X) (hT : vTd (K.1, K.2.1)) (h : ∀ u', fR u u' → kRw u' X (K.1, K.2.1) (pAll X 24 0 (nxt X 0) (K.1, K.2.1)).2 → hI u' 23 1 = (pAll X 24 0 (nxt X 0) (K.1, K.2.1)).2 → Q (some (vI (pAll X 24 0 (nxt X 0) (K.1, K.2.1)).1)) u') : wpm (d + 8) M_X1_read [vR 23, vR 9] u Q := by
  have v := hV.1
  refine e_X1_read rfl (run [(7, [])] 60 ?_)
  refine k_startWith hS hK hO hV (fun u1 f1 t1 e7 e49 e1 => ?_)
  exact w_read hV h 24 0 u1 (nxt X 0) (K.1, K.2.1) (fR_S f1 hS) (fR_X f1 hK) (vTok_n (by omega) (by omega)) t1 e7 e49 hT e1 (fun n hn => by omega) f1 (by omega) (by omega) rfl rfl
