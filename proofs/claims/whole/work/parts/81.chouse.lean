/-! the class forgets what is behind a text; house -/
def fG (u u' : aS) : Prop := fA (fun a => a = 19 ∨ 50 ≤ a ∧ a ≤ 138) u u'
def fgI (T : Tr) (i : Int) : Tr := fun k => if 0 ≤ k ∧ k < i then ((T k).1, [], (T k).2.2) else T k
theorem fgI_up (T : Tr) {i : Int} (h : 0 ≤ i) : upT (fgI T i) i ((T i).1, [], (T i).2.2) = fgI T (i + 1) := by
  funext j
  unfold upT fgI
  by_cases e : j = i
  · subst e
    rw [if_pos rfl, if_pos (by omega)]
  · rw [if_neg e]
    by_cases e2 : 0 ≤ j ∧ j < i
    · rw [if_pos e2, if_pos (by omega)]
    · rw [if_neg e2, if_neg (by omega)]
theorem fgI_0 (T : Tr) : fgI T 0 = T := by
  funext j
  unfold fgI
  rw [if_neg (by omega)]
theorem cA_fgI {u : aS} {A : Al} {T : Tr} (h : cA u (A.1, A.2.1, A.2.2.1, fgI T 4, A.2.2.2.2)) : cA u (A.1, A.2.1, A.2.2.1, fgt T, A.2.2.2.2) := by
  obtain ⟨h1, h2, h3, h4, h5, h6, h7⟩ := h
  refine ⟨h1, h2, h3, h4, h5, fun k k0 k1 => ?_, h7⟩
  have g := h6 k k0 k1
  have e : fgI T 4 k = fgt T k := by
    unfold fgI fgt
    rw [if_pos (by omega)]
  have g' : cT1 u (50 + 20 * k.toNat) (fgI T 4 k) := g
  rw [e] at g'
  exact g'
theorem w_fg1 {d : Nat} {u0 : aS} {Q : aQ} {A : Al} {c s : Nat} (h : ∀ u, cA u (A.1, A.2.1, A.2.2.1, fgI A.2.2.2.1 4, A.2.2.2.2) → fG u0 u → wp (wpm d) cd_X7_forgetAllBehindText Q 23 [vR 8, vI 4] [] u c s) : ∀ (n : Nat) (k : Int) (u : aS), k + n = 4 → 0 ≤ k → cA u (A.1, A.2.1, A.2.2.1, fgI A.2.2.2.1 k, A.2.2.2.2) → fG u0 u → wp (wpm d) cd_X7_forgetAllBehindText Q 2 [vR 8, vI k] [] u c s
  | 0, k, u, h1, h0, hA, hf => by
    have e : k = 4 := by omega
    subst e
    refine run [(23, [])] 60 ?_
    exact h u hA hf
  | n + 1, k, u, h1, h0, hA, hf => by
    have hS := hA.1
    have hx := hA.2.1
    have k1 : k ≤ 3 := by omega
    have hB := isB_k h0 k1
    have kB := hB.k0
    have hl := hB.le
    obtain ⟨a0, a1, p0, p1, p2, p3, hW⟩ := hA.2.2.2.2.2.1 k h0 k1
    have ek : fgI A.2.2.2.1 k k = A.2.2.2.1 k := by
      unfold fgI
      rw [if_neg (by omega)]
    have hW : cW u (50 + 20 * k.toNat) a0 a1 p0 p1 p2 p3 (fgI A.2.2.2.1 k k) := hW
    rw [ek] at hW
    refine run [(2, [])] 60 ?_
    refine z_bq (fun hz => ?_) (fun hz => by omega)
    repeat first
      | refine z_gq (by first | omega | (simp [hI_sI, hI_sF, hI_sR, hI_nw, hI_ff, hI_fl, hI_cp]; try omega)) ?_
      | refine z_iq rfl (by first | omega | (simp [hI_sI, hI_sF, hI_sR, hI_nw, hI_ff, hI_fl, hI_cp]; try omega)) (by first | omega | (simp [hI_sI, hI_sF, hI_sR, hI_nw, hI_ff, hI_fl, hI_cp]; try omega)) ?_
      | refine z_dq (hS.tracks) ?_
      | refine z_dq (hS.track h0 k1) ?_
      | refine z_kq (kB) ?_
    have hf2 : fA (fun x => x = 50 + 20 * k.toNat ∨ x = 50 + 20 * k.toNat + 5) u (sI u (50 + 20 * k.toNat) 3 0) := fA_sI _ _ _ (by omega)
    have hW2 := cW_p (K := ((A.2.2.2.1 k).1, [], (A.2.2.2.1 k).2.2)) hB hf2 ⟨hW.1.1, hW.1.2.1⟩ hW.1.2.2.1 hW.1.2.2.2 hW.2.1 trivial (by rw [hI_sI, if_pos ⟨rfl, rfl⟩]; rfl) (by rw [hI_sI, if_neg (by omega)]; exact hW.2.2.2.2)
    have hF : fA (fun a => pT (50 + 20 * k.toNat) a ∨ nx u ≤ a) u (sI u (50 + 20 * k.toNat) 3 0) := fA_wk hf2 (fun x z => pT_b z)
    have hA2 := cA_tr hA h0 k1 hF ⟨a0, a1, p0, p1, p2, p3, hW2⟩
    refine w_fg1 h n (k + 1) _ (by omega) (by omega) ?_ (fA_tr hf (fA_wk hf2 (fun a => by omega)))
    rw [← fgI_up A.2.2.2.1 h0]
    exact hA2
theorem w_fg2 {d : Nat} {Q : aQ} {c s : Nat} : ∀ (m : Nat) (i : Int) (u : aS), cS u → i + m = 2 → 0 ≤ i → wp (wpm d) cd_X7_forgetAllBehindText Q 43 [vR 8, vI 2] [] (fl u 19 i 2 0) c s → wp (wpm d) cd_X7_forgetAllBehindText Q 25 [vR 8, vI i] [] u c s
  | 0, i, u, hS, h1, h0, h => by
    rw [fl_end u 19 0 (by omega)] at h
    have e : i = 2 := by omega
    subst e
    refine run [(43, [])] 60 ?_
    exact h
  | m + 1, i, u, hS, h1, h0, h => by
    refine run [(25, [])] 60 ?_
    refine z_bq (fun hz => ?_) (fun hz => by omega)
    repeat first
      | refine z_gq (by first | omega | (simp [hI_sI, hI_sF, hI_sR, hI_nw, hI_ff, hI_fl, hI_cp]; try omega)) ?_
      | refine z_iq rfl (by first | omega | (simp [hI_sI, hI_sF, hI_sR, hI_nw, hI_ff, hI_fl, hI_cp]; try omega)) (by first | omega | (simp [hI_sI, hI_sF, hI_sR, hI_nw, hI_ff, hI_fl, hI_cp]; try omega)) ?_
      | refine z_dq (hS.kept) ?_
    rw [← fl_step u 19 0 (show i < 2 by omega)] at h
    exact w_fg2 m (i + 1) _ (cS_h (fun _ _ _ => rfl) hS) (by omega) (by omega) h
def rkI (K : Rk) (i : Int) : Rk := (fun r => if 0 ≤ r ∧ r < i then -1 else K.1 r, K.2)
theorem w_fg3 {d : Nat} {u0 : aS} {Q : aQ} {A : Al} {c s : Nat} (h : ∀ u, cA u (A.1, A.2.1, rkI A.2.2.1 3, A.2.2.2) → fG u0 u → Q none u) : ∀ (n : Nat) (r : Int) (u : aS), r + n = 3 → 0 ≤ r → cA u (A.1, A.2.1, rkI A.2.2.1 r, A.2.2.2) → fG u0 u → wp (wpm d) cd_X7_forgetAllBehindText Q 45 [vR 8, vI r] [] u c s
  | 0, r, u, h1, h0, hA, hf => by
    have e : r = 3 := by omega
    subst e
    refine run [] 60 ?_
    exact h u hA hf
  | n + 1, r, u, h1, h0, hA, hf => by
    have hS := hA.1
    have r1 : r ≤ 2 := by omega
    have hr := isRk_r h0 r1
    have hK := hA.2.2.2.2.1
    have hC := hK r h0 r1
    refine run [(45, [])] 60 ?_
    refine z_bq (fun hz => ?_) (fun hz => by omega)
    repeat first
      | refine z_gq (by first | omega | (simp [hI_sI, hI_sF, hI_sR, hI_nw, hI_ff, hI_fl, hI_cp]; try omega)) ?_
      | refine z_iq rfl (by first | omega | (simp [hI_sI, hI_sF, hI_sR, hI_nw, hI_ff, hI_fl, hI_cp]; try omega)) (by first | omega | (simp [hI_sI, hI_sF, hI_sR, hI_nw, hI_ff, hI_fl, hI_cp]; try omega)) ?_
      | refine z_dq (hS.racks) ?_
      | refine z_dq (hS.rack h0 r1) ?_
      | refine z_kq (hr.k0) ?_
    have hf2 : fA (fun a => 130 + 3 * r.toNat ≤ a ∧ a ≤ 132 + 3 * r.toNat) u (sI u (130 + 3 * r.toNat) 2 1) := fA_sI u _ _ (by omega)
    obtain ⟨g1, g2, g3, g4, g5, g6⟩ := hC
    have hA2 : cA (sI u (130 + 3 * r.toNat) 2 1) (A.1, A.2.1, rkI A.2.2.1 (r + 1), A.2.2.2) := by
      refine cA_rk (A := (A.1, A.2.1, rkI A.2.2.1 r, A.2.2.2)) hA (fA_wk hf2 (fun a => by omega)) (cRk_up (S := -1) (N := A.2.2.1.2.1 r) (T := fun j => A.2.2.1.2.2 (8 * r + j)) hK h0 r1 hf2 ⟨g1, g2, ?_, fun z => absurd rfl z, ?_, fun j j0 j1 => ?_⟩ (if_pos (by omega)) rfl (fun j j0 j1 => rfl) (fun q e => ?_) (fun _ _ => rfl) (fun q j e j0 j1 => rfl))
      · simp [hI_sI]
      · have g5' : hI u (130 + 3 * r.toNat) 4 = A.2.2.1.2.1 r := g5
        simpa [hI_sI] using g5'
      · have g6' : cTh (hI u (130 + 3 * r.toNat + 1) j) (hI u (130 + 3 * r.toNat + 2) j) (A.2.2.1.2.2 (8 * r + j)) := g6 j j0 j1
        simpa [hI_sI] using g6'
      · show (if 0 ≤ q ∧ q < r + 1 then -1 else A.2.2.1.1 q) = if 0 ≤ q ∧ q < r then -1 else A.2.2.1.1 q
        by_cases e2 : 0 ≤ q ∧ q < r
        · rw [if_pos e2, if_pos (by omega)]
        · rw [if_neg e2, if_neg (by omega)]
    exact w_fg3 h n (r + 1) _ (by omega) (by omega) hA2 (fA_tr hf (fA_wk hf2 (fun a => by omega)))
theorem k_forget {d : Nat} {u : aS} {Q : aQ} {A : Al} (hA : cA u A) (h : ∀ u', cA u' (A.1, A.2.1, (fun _ => -1, A.2.2.1.2), fgt A.2.2.2.1, fun k => (0, (A.2.2.2.2 k).2)) → fG u u' → Q none u') : wpm (d + 1) M_X7_forgetAllBehindText [vR 8] u Q := by
  refine e_X7_forgetAllBehindText rfl (run [(2, [])] 60 ?_)
  refine w_fg1 (A := A) (u0 := u) (fun u1 a1 f1 => ?_) 4 0 u (by omega) (by omega) (by rw [fgI_0]; exact hA) (fA_rfl _ u)
  have b1 := cA_fgI a1
  refine run [(25, [])] 60 ?_
  refine w_fg2 2 0 _ b1.1 (by omega) (by omega) ?_
  have f2 : fA (fun a => a = 19) u1 (fl u1 19 0 2 0) := fA_fl _ _ _ _ rfl
  have b2 : cA (fl u1 19 0 2 0) (A.1, A.2.1, A.2.2.1, fgt A.2.2.2.1, fun k => (0, (A.2.2.2.2 k).2)) := by
    obtain ⟨c1, c2, c3, c4, c5, c6, c7⟩ := b1
    refine ⟨cS_f f2 (fun a => by omega) c1, c2, cSo_f f2 (fun a => by omega) c3, cTx_f f2 (fun a => by omega) c4, cRk_f f2 (fun a => by omega) c5, cTr_f f2 (fun a => by omega) (fun b => by omega) c6, fun k k0 k1 => ⟨?_, fun z => ?_⟩⟩
    · rw [hI_fl, if_pos (by omega)]
    · replace z : (0 : Int) = 1 := z
      omega
  refine run [(45, [])] 60 ?_
  refine w_fg3 (A := (A.1, A.2.1, A.2.2.1, fgt A.2.2.2.1, fun k => (0, (A.2.2.2.2 k).2))) (u0 := u) (fun u3 a3 f3 => ?_) 3 0 _ (by omega) (by omega) ?_ (fA_tr f1 (fA_wk f2 (fun a => by omega)))
  · refine h u3 ?_ f3
    obtain ⟨c1, c2, c3, c4, c5, c6, c7⟩ := a3
    refine ⟨c1, c2, c3, c4, fun r r0 r1 => ?_, c6, c7⟩
    have g := c5 r r0 r1
    have e : (rkI A.2.2.1 3).1 r = -1 := if_pos (by omega)
    have g' : cR1 u3 (130 + 3 * r.toNat) ((rkI A.2.2.1 3).1 r) (A.2.2.1.2.1 r) (fun i => A.2.2.1.2.2 (8 * r + i)) := g
    rw [e] at g'
    exact g'
  · have e : rkI A.2.2.1 0 = A.2.2.1 := by
      unfold rkI
      have : (fun r => if 0 ≤ r ∧ r < 0 then -1 else A.2.2.1.1 r) = A.2.2.1.1 := by
        funext r
        rw [if_neg (by omega)]
      rw [this]
    show cA _ (A.1, A.2.1, rkI A.2.2.1 0, fgt A.2.2.2.1, fun k => (0, (A.2.2.2.2 k).2))
    rw [e]
    exact b2
def fH (u u' : aS) : Prop := fA (fun a => (1 ≤ a ∧ a ≤ 138) ∨ 156 ≤ a) u u'
/-- the clauses, one after another -/
theorem w_house {d : Nat} {X : Tx} {T0 : Told} {N : Nat} {z : Int} {Q : aQ} {A : Al} (hZ : vSz A.1) (hF : vSf A.1) (hT : vTr A.2.2.2.1) (hQ : vQN A.1 A.2.2.2.1) (e0 : T0 = (A.1.1, A.1.2.1)) (hg : gdN X T0 N) (hN : N ≤ 24) (hz : z = N) {u0 : aS} (h : ∀ u c s, cA u (wST A (itN (fun _ T' => T') X T0 A.1 A.2.2.2.1 N)) → hI u 23 1 = z → fH u0 u → wp (wpm (d + 6)) cd_X7_house Q 50 [vR 8, vI z] [] u c s) : ∀ (m n : Nat) (i : Int) (u : aS) (c s : Nat), n + m = N → i = n → 25 * m ≤ c → 175 * m ≤ s → cA u (wST A (itN (fun _ T' => T') X T0 A.1 A.2.2.2.1 n)) → hI u 23 1 = z → kRw u X T0 z → fH u0 u → wp (wpm (d + 6)) cd_X7_house Q 20 [vR 8, vI i] [] u c s := by
  intro m
  induction m with
  | zero =>
    intro n i u c s hn hi hc hs hA e1 hw hf
    have hS := hA.1
    refine run [(50, [])] 60 ?_
    repeat first
      | refine z_gq (by first | omega | (simp [hI_sI, hI_sF, hI_sR, hI_nw, hI_ff, hI_fl, hI_cp]; try omega)) ?_
      | refine z_iq rfl (by first | omega | (simp [hI_sI, hI_sF, hI_sR, hI_nw, hI_ff, hI_fl, hI_cp]; try omega)) (by first | omega | (simp [hI_sI, hI_sF, hI_sR, hI_nw, hI_ff, hI_fl, hI_cp]; try omega)) ?_
      | refine z_dq (hS.reader) ?_
    refine z_bq (fun hy => by omega) (fun hy => ?_)
    have en : n = N := by omega
    have ei : i = z := by omega
    rw [ei]
    rw [← en] at h
    exact h u c s hA e1 hf
  | succ m ih =>
    intro n i u c s hn hi hc hs hA e1 hw hf
    have hS := hA.1
    obtain ⟨v1, v2, v3, v4, v5⟩ := itN_v ok_id hZ hF hT hQ e0 hg n (by omega)
    obtain ⟨t', y1, y2, y3⟩ := hg n (by omega)
    have y1' := y1
    rw [v5] at y1'
    have i0 : 0 ≤ i := by omega
    have i1 : i < 24 := by omega
    have it : i.toNat = n := by omega
    refine run [(50, []), (20, [])] 60 ?_
    repeat first
      | refine z_gq (by first | omega | (simp [hI_sI, hI_sF, hI_sR, hI_nw, hI_ff, hI_fl, hI_cp]; try omega)) ?_
      | refine z_iq rfl (by first | omega | (simp [hI_sI, hI_sF, hI_sR, hI_nw, hI_ff, hI_fl, hI_cp]; try omega)) (by first | omega | (simp [hI_sI, hI_sF, hI_sR, hI_nw, hI_ff, hI_fl, hI_cp]; try omega)) ?_
      | refine z_dq (hS.reader) ?_
    refine z_bq (fun hy => ?_) (fun hy => by omega)
    repeat first
      | refine z_gq (by first | omega | (simp [hI_sI, hI_sF, hI_sR, hI_nw, hI_ff, hI_fl, hI_cp]; try omega)) ?_
      | refine z_iq rfl (by first | omega | (simp [hI_sI, hI_sF, hI_sR, hI_nw, hI_ff, hI_fl, hI_cp]; try omega)) (by first | omega | (simp [hI_sI, hI_sF, hI_sR, hI_nw, hI_ff, hI_fl, hI_cp]; try omega)) ?_
      | refine z_dq (hS.reader) ?_
      | refine z_dq (hS.clauses) ?_
      | refine z_dq ((hS.clause i0 i1)) ?_
    refine z_cq (c := c) (k := 25) (c' := c - 25) (by omega) ?_
    refine z_cq (c := s) (k := 175) (c' := s - 175) (by omega) ?_
    have hr : rCl X (wh X (stn X T0 n).1) (nt X (stn X T0 n).1) (fun j => hI u (25 + i.toNat) j) := by
      rw [it]
      exact hw n (by omega)
    refine k_perform (X := X) hA v1 v3 (by omega) hr y1' (fun u1 m1 m2 => ?_)
    repeat first
      | refine z_gq (by first | omega | (simp [hI_sI, hI_sF, hI_sR, hI_nw, hI_ff, hI_fl, hI_cp]; try omega)) ?_
      | refine z_iq rfl (by first | omega | (simp [hI_sI, hI_sF, hI_sR, hI_nw, hI_ff, hI_fl, hI_cp]; try omega)) (by first | omega | (simp [hI_sI, hI_sF, hI_sR, hI_nw, hI_ff, hI_fl, hI_cp]; try omega)) ?_
    refine ih (n + 1) (i + 1) u1 (c - 25) (s - 175) (by omega) (by omega) (by omega) (by omega) m1 ?_ (kRw_f m2 (fun n hn => by omega) hw) (fA_tr hf (fA_wk m2 (fun a => by omega)))
    rw [(m2.1 23 (by omega) 1).1]
    exact e1
theorem k_house {d : Nat} {u : aS} {Q : aQ} {A : Al} (hA : cA u A) (hV : vTx A.2.1) (hZ : vSz A.1) (hF : vSf A.1) (hT : vTr A.2.2.2.1) (hQ : vQN A.1 A.2.2.2.1) (h : ∀ u', cA u' (oHouse A).2 → fH u u' → Q (some (vI (oHouse A).1)) u') : wpm (d + 9) M_X7_house [vR 8] u Q := by
  have hS := hA.1
  unfold oHouse at h
  refine e_X7_house rfl (run [(20, [])] 60 ?_)
  repeat first
    | refine z_gq (by first | omega | (simp [hI_sI, hI_sF, hI_sR, hI_nw, hI_ff, hI_fl, hI_cp]; try omega)) ?_
    | refine z_iq rfl (by first | omega | (simp [hI_sI, hI_sF, hI_sR, hI_nw, hI_ff, hI_fl, hI_cp]; try omega)) (by first | omega | (simp [hI_sI, hI_sF, hI_sR, hI_nw, hI_ff, hI_fl, hI_cp]; try omega)) ?_
    | refine z_dq (hS.reader) ?_
    | refine z_dq (hS.sounds) ?_
  refine k_read hS hA.2.2.2.1 hA.2.2.1 hV (vTd_z hZ) (fun u1 m1 m2 m3 => ?_)
  have hA1 := cA_R m1 hA
  have f1 : fH u u1 := fA_wk m1.1 (fun a => by omega)
  refine z_bq (fun hz => ?_) (fun hz => ?_)
  · rw [if_pos (show (pTx A.2.1 A.1).1 = -1 from hz)] at h
    obtain ⟨N, g1, g2, g3, g4⟩ := gd_all (T0 := (A.1.1, A.1.2.1)) hV hz
    have g1' : (pTx A.2.1 A.1).2 = N := g1
    have hn : (pTx A.2.1 A.1).2.toNat = N := by omega
    rw [hn] at h
    refine w_house (d := d + 2) (A := A) hZ hF hT hQ rfl g4 g3 g1 (u0 := u) (fun u2 c s a2 b2 f2 => ?_) N 0 0 u1 600 4200 (by omega) rfl (by omega) (by omega) hA1 m3 m2 f1
    have S2 := a2.1
    refine run [] 60 ?_
    refine k_forget a2 (fun u3 a3 f3 => ?_)
    have S3 := a3.1
    repeat first
      | refine z_gq (by first | omega | (simp [hI_sI, hI_sF, hI_sR, hI_nw, hI_ff, hI_fl, hI_cp]; try omega)) ?_
      | refine z_iq rfl (by first | omega | (simp [hI_sI, hI_sF, hI_sR, hI_nw, hI_ff, hI_fl, hI_cp]; try omega)) (by first | omega | (simp [hI_sI, hI_sF, hI_sR, hI_nw, hI_ff, hI_fl, hI_cp]; try omega)) ?_
      | refine z_dq (S3.text) ?_
      | refine z_dq (S3.reader) ?_
    have f4 : fA (fun a => a = 21 ∨ a = 22) u3 (sI u3 21 1 0) := fA_sI _ _ _ (Or.inl rfl)
    have a4 := cA_tx a3 f4 (fun _ => rfl) (K := (0, A.2.1.2)) ⟨by rw [hI_sI, if_pos ⟨rfl, rfl⟩], fun i i0 i1 => by replace i1 : i < 0 := i1; omega⟩
    refine q_eq (h _ a4 (fA_tr f2 (fA_tr (fA_wk f3 (fun a => by omega)) (fA_wk f4 (fun a => by omega))))) ?_
    rw [hI_sI, if_neg (by omega), (f3.1 23 (by omega) 1).1]
    exact b2
  · rw [if_neg (show ¬ (pTx A.2.1 A.1).1 = -1 from hz)] at h
    exact h u1 hA1 f1
