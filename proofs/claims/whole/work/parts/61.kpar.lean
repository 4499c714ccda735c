/-! the class reads a clause: the state -/
def nt (X : Tx) (t : Tok) : Tok := nxt X t.2.2
def vl (X : Tx) (t : Tok) : Int := nv X t.1 t.2.2
theorem vTok_t {X : Tx} {t : Tok} (h : vTok X t) : vTok X (nt X t) := vTok_n (by have := h.1; omega) (by have := h.1; omega)
def upF (f : Int → Int) (j v : Int) : Int → Int := fun i => if i = j then v else f i
/-- the sounds told: how many, and their lengths -/
abbrev Told : Type := Int × (Int → Int)
def kP (u0 u : aS) (R : Nat) (X : Tx) (t : Tok) (T : Told) (r : Int → Int) : Prop := cS u ∧ cTx u X ∧ vTok X t ∧ cTok u t ∧ hI u 23 7 = T.1 ∧ (∀ s, 0 ≤ s → s < 6 → hI u 49 s = T.2 s) ∧ (∀ j, 0 ≤ j → j < 6 → hI u R j = r j) ∧ fA (fun a => a = 23 ∨ a = R ∨ a = 49) u0 u ∧ (∀ i, hR u 23 i = hR u0 23 i) ∧ hI u 23 1 = hI u0 23 1
theorem kP_T {u0 u u' : aS} {R : Nat} {X : Tx} {t t' : Tok} {T : Told} {r : Int → Int} (hr : 25 ≤ R ∧ R ≤ 48) (h : kP u0 u R X t T r) (hf : fT u u') (hv : vTok X t') (ht : cTok u' t') : kP u0 u' R X t' T r := by
  obtain ⟨p1, p2, p3, p4, p5, p6, p7, p8, p9, p10⟩ := h
  refine ⟨fT_S hf p1, fT_X hf p2, hv, ht, (hf.2.2 7 (by omega)).trans p5, fun s s0 s1 => ?_, fun j j0 j1 => ?_, fA_tr p8 (fA_wk hf.1 (fun a ha => Or.inl ha)), fun i => (hf.2.1 i).trans (p9 i), (hf.2.2 1 (by omega)).trans p10⟩
  · exact ((hf.1.1 49 (by omega) s).1).trans (p6 s s0 s1)
  · exact ((hf.1.1 R (by omega) j).1).trans (p7 j j0 j1)
theorem kP_r {u0 u : aS} {R : Nat} {X : Tx} {t : Tok} {T : Told} {r : Int → Int} {j v : Int} (hr : 25 ≤ R ∧ R ≤ 48) (h : kP u0 u R X t T r) : kP u0 (sI u R j v) R X t T (upF r j v) := by
  obtain ⟨p1, p2, p3, p4, p5, p6, p7, p8, p9, p10⟩ := h
  have n23 : ∀ i, hI (sI u R j v) 23 i = hI u 23 i := fun i => by rw [hI_sI, if_neg (by omega)]
  have f0 : fA (fun a => a = R) u (sI u R j v) := fA_sI _ _ _ rfl
  refine ⟨cS_h (fun _ _ _ => rfl) p1, cTx_f f0 (fun a => by omega) p2, p3, ⟨(n23 3).trans p4.1, (n23 4).trans p4.2.1, (n23 5).trans p4.2.2⟩, (n23 7).trans p5, fun s s0 s1 => ?_, fun i i0 i1 => ?_, fA_tr p8 (fA_wk f0 (fun a ha => Or.inr (Or.inl ha))), p9, (n23 1).trans p10⟩
  · rw [hI_sI, if_neg (by omega)]
    exact p6 s s0 s1
  · unfold upF
    rw [hI_sI]
    by_cases e : i = j
    · rw [if_pos ⟨rfl, e⟩, if_pos e]
    · rw [if_neg (fun z => e z.2), if_neg e]
      exact p7 i i0 i1
theorem k_numP {d : Nat} {X : Tx} {t : Tok} {R : Nat} {T : Told} {r : Int → Int} {j lo hi : Int} {u0 u : aS} {Q : aQ} (hV : vTx X) (hr : 25 ≤ R ∧ R ≤ 48) (hP : kP u0 u R X t T r) (hj : 0 ≤ j ∧ j < 6) (hlo : 0 ≤ lo) (h1 : isN X t lo hi → ∀ u', kP u0 u' R X (nt X t) T (upF r j (vl X t)) → Q (some (vI 1)) u') (h0 : ¬ isN X t lo hi → Q (some (vI 0)) u) : wpm (d + 3) M_X1_readNumber [vR 23, vR R, vI j, vI lo, vI hi] u Q :=
  k_num hP.1 hP.2.1 hV hP.2.2.1 hP.2.2.2.1 hr.1 hr.2 hj hlo (fun g u' m1 m2 => h1 g u' (kP_T hr (kP_r hr hP) m1 (vTok_t hP.2.2.1) m2)) h0
theorem kP_o {u0 u : aS} {R : Nat} {X : Tx} {t : Tok} {T : Told} {r : Int → Int} {v : Int} (hr : 25 ≤ R ∧ R ≤ 48) (h : kP u0 u R X t T r) : kP u0 (sI (sI u 49 (hI u 23 7) v) 23 7 (hI (sI u 49 (hI u 23 7) v) 23 7 + 1)) R X t (T.1 + 1, upF T.2 T.1 v) r := by
  obtain ⟨p1, p2, p3, p4, p5, p6, p7, p8, p9, p10⟩ := h
  have e0 : hI (sI u 49 (hI u 23 7) v) 23 7 = T.1 := by
    rw [hI_sI, if_neg (by omega)]
    exact p5
  rw [e0, p5]
  have n23 : ∀ i, ¬ i = 7 → hI (sI (sI u 49 T.1 v) 23 7 (T.1 + 1)) 23 i = hI u 23 i := fun i hi => by rw [hI_sI, if_neg (by omega), hI_sI, if_neg (by omega)]
  have f0 : fA (fun a => a = 23 ∨ a = 49) u (sI (sI u 49 T.1 v) 23 7 (T.1 + 1)) := fA_tr (fA_sI u _ _ (by omega)) (fA_sI _ _ _ (by omega))
  refine ⟨cS_h (fun _ _ _ => rfl) p1, cTx_f f0 (fun a => by omega) p2, p3, ⟨(n23 3 (by omega)).trans p4.1, (n23 4 (by omega)).trans p4.2.1, (n23 5 (by omega)).trans p4.2.2⟩, ?_, fun s s0 s1 => ?_, fun i i0 i1 => ?_, fA_tr p8 (fA_wk f0 (fun a ha => by omega)), p9, (n23 1 (by omega)).trans p10⟩
  · rw [hI_sI, if_pos ⟨rfl, rfl⟩]
  · rw [hI_sI, if_neg (by omega), hI_sI]
    unfold upF
    by_cases e : s = T.1
    · rw [if_pos ⟨rfl, e⟩]
      exact (if_pos e).symm
    · rw [if_neg (fun z => e z.2), p6 s s0 s1]
      exact (if_neg e).symm
  · rw [hI_sI, if_neg (by omega), hI_sI, if_neg (by omega)]
    exact p7 i i0 i1
/-- a tone: where it is wrong, or its three numbers and what comes then -/
def pTone (X : Tx) (t : Tok) : Tok ⊕ Tok := if isN X t 0 200 then if isN X (nt X t) 0 200 then if isN X (nt X (nt X t)) 1 64 then .inr (nt X (nt X (nt X t))) else .inl (nt X (nt X t)) else .inl (nt X t) else .inl t
def rTone (X : Tx) (t : Tok) (r : Int → Int) : Int → Int := upF (upF (upF r 1 (vl X t)) 2 (vl X (nt X t))) 3 (vl X (nt X (nt X t)))
theorem k_readTone {d : Nat} {X : Tx} {t : Tok} {R : Nat} {T : Told} {r : Int → Int} {u0 u : aS} {Q : aQ} (hV : vTx X) (hr : 25 ≤ R ∧ R ≤ 48) (hP : kP u0 u R X t T r) (hT : 0 ≤ T.1 ∧ T.1 < 6) (h1 : ∀ t', pTone X t = .inr t' → ∀ u', kP u0 u' R X t' (T.1 + 1, upF T.2 T.1 (vl X (nt X (nt X t)))) (rTone X t r) → Q (some (vI 1)) u') (h0 : ∀ t', pTone X t = .inl t' → ∀ u' r', kP u0 u' R X t' T r' → Q (some (vI 0)) u') : wpm (d + 4) M_X1_readTone [vR 23, vR R] u Q := by
  have kc := kd_cl hr.1 hr.2
  unfold pTone at h1 h0
  refine e_X1_readTone rfl (run [] 60 ?_)
  refine k_numP hV hr hP (by omega) (by omega) (fun g1 u1 P1 => ?_) (fun g1 => ?_)
  · rw [if_pos g1] at h1 h0
    refine k_numP hV hr P1 (by omega) (by omega) (fun g2 u2 P2 => ?_) (fun g2 => ?_)
    · rw [if_pos g2] at h1 h0
      refine k_numP hV hr P2 (by omega) (by omega) (fun g3 u3 P3 => ?_) (fun g3 => ?_)
      · rw [if_pos g3] at h1
        have e7 : hI u3 23 7 = T.1 := P3.2.2.2.2.1
        have e3 : hI u3 R 3 = vl X (nt X (nt X t)) := P3.2.2.2.2.2.2.1 3 (by omega) (by omega)
        repeat first
          | refine z_gq (by first | omega | (simp [hI_sI, hI_sF, hI_sR, hI_nw, hI_ff, hI_fl, hI_cp]; try omega)) ?_
          | refine z_iq rfl (by first | omega | (simp [hI_sI, hI_sF, hI_sR, hI_nw, hI_ff, hI_fl, hI_cp]; try omega)) (by first | omega | (simp [hI_sI, hI_sF, hI_sR, hI_nw, hI_ff, hI_fl, hI_cp]; try omega)) ?_
          | refine z_dq (P3.1.told) ?_
          | refine z_iq (kc) (by first | omega | (simp [hI_sI, hI_sF, hI_sR, hI_nw, hI_ff, hI_fl, hI_cp]; try omega)) (by first | omega | (simp [hI_sI, hI_sF, hI_sR, hI_nw, hI_ff, hI_fl, hI_cp]; try omega)) ?_
        refine h1 _ rfl _ ?_
        rw [e3]
        exact kP_o hr P3
      · rw [if_neg g3] at h0
        exact h0 _ rfl u2 _ P2
    · rw [if_neg g2] at h0
      exact h0 _ rfl u1 _ P1
  · rw [if_neg g1] at h0
    exact h0 _ rfl u _ hP
