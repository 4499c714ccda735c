/-! the class's numbers -/
theorem kd_cl {R : Nat} (h0 : 25 ≤ R) (h1 : R ≤ 48) : kd R = (20, 6) := by
  have key : ∀ n, n < 24 → kd (25 + n) = (20, 6) := by decide
  have := key (R - 25) (by omega)
  rw [show 25 + (R - 25) = R by omega] at this
  exact this
theorem nv_4 {X : Tx} {b e : Int} (h : b + 3 < e) : nv X b e = -1 := by
  unfold nv
  rw [if_neg (by omega), if_neg (by omega), if_neg (by omega), if_neg (by omega)]
theorem w_num {d : Nat} {X : Tx} {t : Tok} {Q : aQ} {u : aS} {R : Nat} {j lo hi : Int} (hS : cS u) (hK : cTx u X) (hV : vTx X) (hT : vTok X t) (ht : cTok u t) (hl : t.2.2 - t.1 ≤ 3) {c s : Nat} (h : wp (wpm (d + 2)) cd_X1_readNumber Q 67 [vR 23, vR R, vI j, vI lo, vI hi, vI (nv X t.1 t.2.2), vI t.2.2] [] u c s) : ∀ (m : Nat) (i : Int), i + m = t.2.2 → t.1 ≤ i → wp (wpm (d + 2)) cd_X1_readNumber Q 32 [vR 23, vR R, vI j, vI lo, vI hi, vI (nv X t.1 i), vI i] [] u c s
  | 0, i, h1, h2 => by
    have e4 : hI u 23 4 = t.2.2 := ht.2.1
    have e : i = t.2.2 := by omega
    subst e
    refine run [(32, []), (67, [])] 60 ?_
    refine z_bq (fun hz => by omega) (fun hz => ?_)
    exact h
  | m + 1, i, h1, h2 => by
    have v := hV.1
    have tb := hT.1
    have e4 : hI u 23 4 = t.2.2 := ht.2.1
    have nb := nv_b hV t.1 i
    have lb := lt_b hV i
    have ns := nv_step (X := X) h2
    rw [if_pos (by omega)] at ns
    refine run [(32, []), (67, [])] 60 ?_
    refine z_bq (fun hz => ?_) (fun hz => by omega)
    repeat first
      | refine z_gq (by first | omega | (simp [hI_sI, hI_sF, hI_sR, hI_nw, hI_ff, hI_fl, hI_cp]; try omega)) ?_
      | refine z_iq rfl (by first | omega | (simp [hI_sI, hI_sF, hI_sR, hI_nw, hI_ff, hI_fl, hI_cp]; try omega)) (by first | omega | (simp [hI_sI, hI_sF, hI_sR, hI_nw, hI_ff, hI_fl, hI_cp]; try omega)) ?_
      | refine z_dq (hS.rtext) ?_
    refine k_letterAt hS hK hV ?_
    repeat first
      | refine z_gq (by first | omega | (simp [hI_sI, hI_sF, hI_sR, hI_nw, hI_ff, hI_fl, hI_cp]; try omega)) ?_
      | refine z_iq rfl (by first | omega | (simp [hI_sI, hI_sF, hI_sR, hI_nw, hI_ff, hI_fl, hI_cp]; try omega)) (by first | omega | (simp [hI_sI, hI_sF, hI_sR, hI_nw, hI_ff, hI_fl, hI_cp]; try omega)) ?_
    have ih := w_num hS hK hV hT ht hl h m (i + 1) (by omega) (by omega)
    rw [show nv X t.1 (i + 1) = nv X t.1 i * 10 + (lt X i - 48) by omega] at ih
    exact ih
theorem k_num {d : Nat} {X : Tx} {t : Tok} {R : Nat} {j lo hi : Int} {u : aS} {Q : aQ} (hS : cS u) (hK : cTx u X) (hV : vTx X) (hT : vTok X t) (ht : cTok u t) (r0 : 25 ≤ R) (r1 : R ≤ 48) (hj : 0 ≤ j ∧ j < 6) (hlo : 0 ≤ lo) (h1 : isN X t lo hi → ∀ u', fT (sI u R j (nv X t.1 t.2.2)) u' → cTok u' (nxt X t.2.2) → Q (some (vI 1)) u') (h0 : ¬ isN X t lo hi → Q (some (vI 0)) u) : wpm (d + 3) M_X1_readNumber [vR 23, vR R, vI j, vI lo, vI hi] u Q := by
  have v := hV.1
  have tb := hT.1
  have e3 : hI u 23 3 = t.1 := ht.1
  have e4 : hI u 23 4 = t.2.2 := ht.2.1
  have e5 : hI u 23 5 = t.2.1 := ht.2.2
  have kc := kd_cl r0 r1
  refine e_X1_readNumber rfl (run [(32, [])] 60 ?_)
  refine z_bq (fun hz => ?_) (fun hz => ?_)
  · repeat first
      | refine z_gq (by first | omega | (simp [hI_sI, hI_sF, hI_sR, hI_nw, hI_ff, hI_fl, hI_cp]; try omega)) ?_
      | refine z_iq rfl (by first | omega | (simp [hI_sI, hI_sF, hI_sR, hI_nw, hI_ff, hI_fl, hI_cp]; try omega)) (by first | omega | (simp [hI_sI, hI_sF, hI_sR, hI_nw, hI_ff, hI_fl, hI_cp]; try omega)) ?_
    refine z_bq (fun hy => ?_) (fun hy => ?_)
    · refine h0 (fun z => ?_)
      have := nv_4 (X := X) (b := t.1) (e := t.2.2) (by omega)
      have := z.2.1
      omega
    · have fin := w_num (d := d) (Q := Q) (R := R) (j := j) (lo := lo) (hi := hi) (c := 0) (s := 0) hS hK hV hT ht (by omega) (by
        refine run [] 60 ?_
        refine k_within (fun a0 a1 => ?_) (fun a0 => ?_)
        · repeat first
            | refine z_gq (by first | omega | (simp [hI_sI, hI_sF, hI_sR, hI_nw, hI_ff, hI_fl, hI_cp]; try omega)) ?_
            | refine z_iq rfl (by first | omega | (simp [hI_sI, hI_sF, hI_sR, hI_nw, hI_ff, hI_fl, hI_cp]; try omega)) (by first | omega | (simp [hI_sI, hI_sF, hI_sR, hI_nw, hI_ff, hI_fl, hI_cp]; try omega)) ?_
            | refine z_iq (kc) (by first | omega | (simp [hI_sI, hI_sF, hI_sR, hI_nw, hI_ff, hI_fl, hI_cp]; try omega)) (by first | omega | (simp [hI_sI, hI_sF, hI_sR, hI_nw, hI_ff, hI_fl, hI_cp]; try omega)) ?_
          have f0 : fA (fun a => a = R) u (sI u R j (nv X t.1 t.2.2)) := fA_sI _ _ _ rfl
          refine k_nextToken (cS_h (fun _ _ _ => rfl) hS) (cTx_f f0 (fun a => by omega) hK) hV (e := t.2.2) ?_ (by omega) (by omega) (fun u' m1 m2 => ?_)
          · rw [hI_sI, if_neg (by omega)]
            exact e4
          · exact h1 ⟨by omega, a0, a1⟩ u' m1 m2
        · exact h0 (fun z => a0 z.2)) (t.2.2 - t.1).toNat t.1 (by omega) (by omega)
      have n0 : nv X t.1 t.1 = 0 := by
        unfold nv
        rw [if_pos rfl]
      rw [n0, ← e3] at fin
      exact fin
  · exact h0 (fun z => hz (by have := z.1; omega))
