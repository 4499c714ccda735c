/-! the constructor of the class -/
theorem nx_nmr (u : aS) (n : Nat) : nx (nmr u n) = nx u + 1 + n := rfl
theorem hI_nmr (u : aS) (n b : Nat) (j : Int) : hI (nmr u n) b j = hI u b j := rfl
theorem fA_nmr {p : Nat → Prop} (u : aS) (n : Nat) (h : p (nx u)) : fA p u (nmr u n) := ⟨fun b hb j => ⟨rfl, rfl, by
  show (if b = nx u ∧ 0 ≤ j ∧ j < n then some (nx u + 1 + j.toNat) else hR u b j) = hR u b j
  rw [if_neg (fun z : b = nx u ∧ 0 ≤ j ∧ j < n => hb (z.1 ▸ h))]⟩, by
  show nx u ≤ nx u + 1 + n
  omega⟩
theorem i_X2 {d : Nat} {u : aS} {Q : aQ} (hn : nx u = 10) (h : Q none (sI (sR (nw (sR (nmr u 6) 9 0 (some 10)) 1) 9 1 (some 17)) 9 2 0)) : wpm (d + 1) M_X2_init [vR 9] u Q := by
  refine e_X2_init rfl (run [] 60 ?_)
  refine y_mnew (call := wpm d) (Q := Q) (a := 10) (m := 6) (w := 64) hn rfl (by decide) rfl rfl (by omega) (by omega) ?_
  refine y_newa (call := wpm d) (Q := Q) (a := 17) (m := 6) (by simp only [nx_sR, nx_nmr, hn]) rfl rfl (by omega) (by omega) ?_
  exact h
theorem i_X5 {d : Nat} {u : aS} {Q : aQ} (hn : nx u = 22) (h : Q none (sI (sR (nw u 1) 21 0 (some 22)) 21 1 0)) : wpm (d + 1) M_X5_init [vR 21] u Q := by
  refine e_X5_init rfl (run [] 60 ?_)
  refine y_newa (call := wpm d) (Q := Q) (a := 22) (m := 200) hn rfl rfl (by omega) (by omega) ?_
  exact h
theorem i_X1 {d : Nat} {u : aS} {Q : aQ} (hn : nx u = 24) (h : Q none (sR (sI (sR (nw (sI (sI (sI (sI (sR (nmr u 24) 23 0 (some 24)) 23 1 0) 23 3 0) 23 4 0) 23 5 4) 1) 23 6 (some 49)) 23 7 0) 23 2 (some 21))) : wpm (d + 1) M_X1_init [vR 23, vR 21] u Q := by
  refine e_X1_init rfl (run [] 60 ?_)
  refine y_mnew (call := wpm d) (Q := Q) (a := 24) (m := 24) (w := 6) hn rfl (by decide) rfl rfl (by omega) (by omega) ?_
  refine y_newa (call := wpm d) (Q := Q) (a := 49) (m := 6) (by simp only [nx_sR, nx_sI, nx_nmr, hn]) rfl rfl (by omega) (by omega) ?_
  exact h
theorem isRk.kk {R : Nat} (h : isRk R) : kd R = (0, 5) := by
  rcases h with e | e | e <;> subst e <;> rfl
theorem w_i7r {d : Nat} {u0 : aS} {Q : aQ} (h : ∀ u, nx u = 139 → (∀ r, 0 ≤ r → r < 3 → hR u 20 r = some (130 + 3 * r.toNat) ∧ cR1 u (130 + 3 * r.toNat) (-1) 0 (fun _ => 0)) → fA (fun a => a = 20 ∨ 130 ≤ a ∧ a < 139) u0 u → Q none u) : ∀ (n : Nat) (r : Int) (u : aS) (c s : Nat), r + n = 3 → 0 ≤ r → nx u = 130 + 3 * r.toNat → zr u (130 + 3 * r.toNat) → hR u 8 3 = some 20 → (∀ j, 0 ≤ j → j < r → hR u 20 j = some (130 + 3 * j.toNat) ∧ cR1 u (130 + 3 * j.toNat) (-1) 0 (fun _ => 0)) → fA (fun a => a = 20 ∨ 130 ≤ a ∧ a < 139) u0 u → 3 * n ≤ c → 21 * n ≤ s → wp (wpm (d + 1)) cd_X7_init Q 92 [vR 8, vI r] [] u c s
  | 0, r, u, c, s, h1, h0, hn, hz, e8, hj, hf, hc, hs => by
    have e : r = 3 := by omega
    subst e
    refine run [] 60 ?_
    exact h u hn hj hf
  | n + 1, r, u, c, s, h1, h0, hn, hz, e8, hj, hf, hc, hs => by
    have hr := isRk_r h0 (show r ≤ 2 by omega)
    refine run [(92, [])] 60 ?_
    refine z_bq (fun hy => ?_) (fun hy => by omega)
    refine z_dq e8 ?_
    refine y_new (call := wpm (d + 1)) (Q := Q) (a := 130 + 3 * r.toNat) hn hr.kk (by omega) (by omega) ?_
    refine z_kq hr.k0 ?_
    refine z_big (k := 2) (by omega) ?_
    refine z_big (k := 16) (by omega) ?_
    refine i_X0 hr (by simp only [nx_nw, hn]) hz (fun u1 f1 n1 c1 => ?_)
    refine z_iq (n := 3) rfl h0 (by omega) ?_
    refine z_kq hr.k0 ?_
    refine z_gq (by omega) ?_
    have f2 : fA (fun a => a = 20 ∨ 130 + 3 * r.toNat ≤ a ∧ a < 133 + 3 * r.toNat) u (sR u1 20 r (some (130 + 3 * r.toNat))) := fA_tr (fA_nw u 1) (fA_tr (fA_wk f1 (fun a => by omega)) (fA_sR u1 _ _ (Or.inl rfl)))
    refine w_i7r h n (r + 1) _ _ _ (by omega) (by omega) ?_ (zr_f hz f2 (by omega) (fun a ha => by omega)) ?_ (fun j j0 j1 => ?_) (fA_tr hf (fA_wk f2 (fun a => by omega))) (by omega) (by omega)
    · rw [nx_sR, n1]
      omega
    · rw [(f2.1 8 (by omega) 3).2.2]
      exact e8
    · by_cases e : j = r
      · subst e
        refine ⟨by rw [hR_sR, if_pos ⟨rfl, rfl⟩], cR1_f (p := fun a => a = 20) (fA_sR u1 _ _ rfl) (by omega) (by omega) (by omega) c1⟩
      · obtain ⟨g1, g2⟩ := hj j j0 (by omega)
        refine ⟨?_, cR1_f f2 (by omega) (by omega) (by omega) g2⟩
        rw [hR_sR, if_neg (fun z => e z.2), (f1.1 20 (by omega) j).2.2]
        exact g1
theorem w_i7t {d : Nat} {u0 : aS} {Q : aQ} (h : ∀ u c s, nx u = 130 → (∀ k, 0 ≤ k → k < 4 → hR u 18 k = some (50 + 20 * k.toNat) ∧ cT1 u (50 + 20 * k.toNat) (([], 0), [], 0)) → fA (fun a => a = 18 ∨ 50 ≤ a ∧ a < 130) u0 u → 9 ≤ c → 63 ≤ s → wp (wpm (d + 2)) cd_X7_init Q 90 [vR 8, vI 4] [] u c s) : ∀ (n : Nat) (k : Int) (u : aS) (c s : Nat), k + n = 4 → 0 ≤ k → nx u = 50 + 20 * k.toNat → zr u (50 + 20 * k.toNat) → hR u 8 1 = some 18 → (∀ j, 0 ≤ j → j < k → hR u 18 j = some (50 + 20 * j.toNat) ∧ cT1 u (50 + 20 * j.toNat) (([], 0), [], 0)) → fA (fun a => a = 18 ∨ 50 ≤ a ∧ a < 130) u0 u → 20 * n + 9 ≤ c → 151 * n + 63 ≤ s → wp (wpm (d + 2)) cd_X7_init Q 66 [vR 8, vI k] [] u c s
  | 0, k, u, c, s, h1, h0, hn, hz, e8, hj, hf, hc, hs => by
    have e : k = 4 := by omega
    subst e
    refine run [(90, [])] 60 ?_
    exact h u c s hn hj hf (by omega) (by omega)
  | n + 1, k, u, c, s, h1, h0, hn, hz, e8, hj, hf, hc, hs => by
    have hB := isB_k h0 (show k ≤ 3 by omega)
    refine run [(66, [])] 60 ?_
    refine z_bq (fun hy => ?_) (fun hy => by omega)
    refine z_dq e8 ?_
    refine y_new (call := wpm (d + 2)) (Q := Q) (a := 50 + 20 * k.toNat) hn hB.kk (by omega) (by omega) ?_
    refine z_kq hB.k0 ?_
    refine z_big (k := 19) (by omega) ?_
    refine z_big (k := 144) (by omega) ?_
    refine i_X6 hB (by simp only [nx_nw, hn]) hz (fun u1 f1 n1 c1 => ?_)
    refine z_iq (n := 4) rfl h0 (by omega) ?_
    refine z_kq hB.k0 ?_
    refine z_gq (by omega) ?_
    have f2 : fA (fun a => a = 18 ∨ 50 + 20 * k.toNat ≤ a ∧ a < 70 + 20 * k.toNat) u (sR u1 18 k (some (50 + 20 * k.toNat))) := fA_tr (fA_nw u 1) (fA_tr (fA_wk f1 (fun a => by omega)) (fA_sR u1 _ _ (Or.inl rfl)))
    refine w_i7t h n (k + 1) _ _ _ (by omega) (by omega) ?_ (zr_f hz f2 (by omega) (fun a ha => by omega)) ?_ (fun j j0 j1 => ?_) (fA_tr hf (fA_wk f2 (fun a => by omega))) (by omega) (by omega)
    · rw [nx_sR, n1]
      omega
    · rw [(f2.1 8 (by omega) 1).2.2]
      exact e8
    · by_cases e : j = k
      · subst e
        refine ⟨by rw [hR_sR, if_pos ⟨rfl, rfl⟩], cT1_f (p := fun a => a = 18) (fA_sR u1 _ _ rfl) (fun a a0 a1 => by omega) (fun b => by omega) c1⟩
      · obtain ⟨g1, g2⟩ := hj j j0 (by omega)
        refine ⟨?_, cT1_f f2 (fun a a0 a1 => by omega) (fun b b0 b1 => by omega) g2⟩
        rw [hR_sR, if_neg (fun z => e z.2), (f1.1 18 (by omega) j).2.2]
        exact g1
/-- at the start -/
def A0 : Al := ((0, fun _ => 0, fun _ _ => 0), (0, fun _ => 0), (fun _ => -1, fun _ => 0, fun _ => 0), fun _ => (([], 0), [], 0), fun _ => (0, fun _ => (([], 0), 0)))
def cA0 (u : aS) : Prop := cS u ∧ cSo u A0.1 ∧ cTx u A0.2.1 ∧ cRk u A0.2.2.1 ∧ cTr u A0.2.2.2.1 ∧ cKp u A0.2.2.2.2
def iF (U : aS) : Prop := ((hR U 8 0 = some 9 ∧ hR U 8 1 = some 18 ∧ hR U 8 2 = some 19 ∧ hR U 8 3 = some 20 ∧ hR U 8 4 = some 21 ∧ hR U 8 5 = some 23) ∧ (hR U 9 0 = some 10 ∧ hR U 9 1 = some 17 ∧ hR U 21 0 = some 22 ∧ hR U 23 0 = some 24 ∧ hR U 23 2 = some 21 ∧ hR U 23 6 = some 49)) ∧ ((∀ s, 0 ≤ s → s < 6 → hR U 10 s = some (11 + s.toNat)) ∧ ∀ c, 0 ≤ c → c < 24 → hR U 24 c = some (25 + c.toNat)) ∧ hI U 9 2 = 0 ∧ (∀ s, hI U 17 s = 0) ∧ hI U 21 1 = 0 ∧ ∀ k, hI U 19 k = 0
theorem i_X7e {d : Nat} {u : aS} {Q : aQ} (h : ∀ u', fA (fun a => 8 ≤ a ∧ a < 139) u u' → nx u' = 139 → cA0 u' → Q none u') (U : aS) (c s : Nat) (n50 : nx U = 50) (z50 : zr U 50) (F : iF U) (f : fA (fun a => 8 ≤ a ∧ a < 50) u U) (hc : 89 ≤ c) (hs : 667 ≤ s) : wp (wpm (d + 2)) cd_X7_init Q 66 [vR 8, vI 0] [] U c s := by
  obtain ⟨⟨⟨a0, a1, a2, a3, a4, a5⟩, b0, b1, b2, b3, b4, b5⟩, ⟨g1, g2⟩, g3, g4, g5, g6⟩ := F
  refine w_i7t (u0 := U) (fun U1 c1 s1 n1 t1 f1 hc1 hs1 => ?_) 4 0 U c s (by omega) (by omega) n50 z50 a1 (fun j j0 j1 => by omega) (fA_rfl _ U) (by omega) (by omega)
  refine run [(92, [])] 60 ?_
  refine w_i7r (d := d + 1) (u0 := U1) (fun U2 n2 r2 f2 => ?_) 3 0 U1 c1 s1 (by omega) (by omega) n1 (zr_f z50 f1 (by show 50 ≤ 130; omega) (fun a ha => by replace ha : 130 ≤ a := ha; omega)) ((f1.1 8 (by omega) 3).2.2.trans a3) (fun j j0 j1 => by omega) (fA_rfl _ U1) (by omega) (by omega)
  have e : ∀ a, ¬ (a = 18 ∨ a = 20 ∨ 50 ≤ a) → ∀ i, hI U2 a i = hI U a i ∧ hF U2 a i = hF U a i ∧ hR U2 a i = hR U a i := fun a ha i => by
    obtain ⟨x1, x2, x3⟩ := f1.1 a (by omega) i
    obtain ⟨y1, y2, y3⟩ := f2.1 a (by omega) i
    exact ⟨y1.trans x1, y2.trans x2, y3.trans x3⟩
  have er : ∀ a, ¬ (a = 18 ∨ a = 20 ∨ 50 ≤ a) → ∀ i, hR U2 a i = hR U a i := fun a ha i => (e a ha i).2.2
  have ei : ∀ a, ¬ (a = 18 ∨ a = 20 ∨ 50 ≤ a) → ∀ i, hI U2 a i = hI U a i := fun a ha i => (e a ha i).1
  refine h U2 (fA_tr (fA_wk f (fun a => by omega)) (fA_tr (fA_wk f1 (fun a => by omega)) (fA_wk f2 (fun a => by omega)))) n2 ⟨?_, ⟨?_, fun s s0 s1 => ?_, fun s i s0 s1 i0 i1 i2 => ?_⟩, ⟨?_, fun i i0 i1 => ?_⟩, fun r r0 r1 => (r2 r r0 (by omega)).2, fun k k0 k1 => ?_, fun k k0 k1 => ⟨?_, fun z => ?_⟩⟩
  · refine ⟨⟨(er 8 (by omega) 0).trans a0, (er 8 (by omega) 1).trans a1, (er 8 (by omega) 2).trans a2, (er 8 (by omega) 3).trans a3, (er 8 (by omega) 4).trans a4, (er 8 (by omega) 5).trans a5⟩, ⟨(er 9 (by omega) 0).trans b0, (er 9 (by omega) 1).trans b1, (er 21 (by omega) 0).trans b2, (er 23 (by omega) 0).trans b3, (er 23 (by omega) 2).trans b4, (er 23 (by omega) 6).trans b5⟩, fun s s0 s1 => (er 10 (by omega) s).trans (g1 s s0 s1), fun c c0 c1 => (er 24 (by omega) c).trans (g2 c c0 c1), fun k k0 k1 => ?_, fun r r0 r1 => (r2 r r0 (by omega)).1⟩
    exact (f2.1 18 (by omega) k).2.2.trans (t1 k k0 (by omega)).1
  · exact (ei 9 (by omega) 2).trans g3
  · exact (ei 17 (by omega) s).trans (g4 s)
  · replace i2 : s < 0 := i2
    omega
  · exact (ei 21 (by omega) 1).trans g5
  · replace i1 : i < 0 := i1
    omega
  · exact cT1_f f2 (fun a a0 a1 => by omega) (fun b b0 b1 => by omega) (t1 k k0 (by omega)).2
  · exact (ei 19 (by omega) k).trans (g6 k)
  · replace z : (0 : Int) = 1 := z
    omega
set_option maxHeartbeats 4000000 in
set_option maxRecDepth 100000 in
theorem i_X7 {d : Nat} {u : aS} {Q : aQ} (hn : nx u = 9) (hz : zr u 8) (h : ∀ u', fA (fun a => 8 ≤ a ∧ a < 139) u u' → nx u' = 139 → cA0 u' → Q none u') : wpm (d + 3) M_X7_init [vR 8] u Q := by
  have key := i_X7e (d := d) h
  clear h
  obtain ⟨uI, uF, uR, un⟩ := u
  replace hn : un = 9 := hn
  subst hn
  refine e_X7_init rfl (run [(66, [])] 200 ?_)
  refine y_new (call := wpm (d + 2)) (Q := Q) (a := 9) rfl rfl (by omega) (by omega) ?_
  refine z_big (k := 8) (by omega) ?_
  refine z_big (k := 396) (by omega) ?_
  refine i_X2 rfl ?_
  refine y_newa (call := wpm (d + 2)) (Q := Q) (a := 18) (m := 4) rfl rfl rfl (by omega) (by omega) ?_
  refine y_newa (call := wpm (d + 2)) (Q := Q) (a := 19) (m := 2) rfl rfl rfl (by omega) (by omega) ?_
  refine y_newa (call := wpm (d + 2)) (Q := Q) (a := 20) (m := 3) rfl rfl rfl (by omega) (by omega) ?_
  refine y_new (call := wpm (d + 2)) (Q := Q) (a := 21) rfl rfl (by omega) (by omega) ?_
  refine z_big (k := 1) (by omega) ?_
  refine z_big (k := 200) (by omega) ?_
  refine i_X5 rfl ?_
  refine y_new (call := wpm (d + 2)) (Q := Q) (a := 23) rfl rfl (by omega) (by omega) ?_
  refine z_dq (r' := some 21) rfl ?_
  refine z_big (k := 26) (by omega) ?_
  refine z_big (k := 174) (by omega) ?_
  refine i_X1 rfl ?_
  have fr : fA (fun a => 8 ≤ a ∧ a < 50) (uI, uF, uR, 9) (sR (sR (sI (sR (nw (sI (sI (sI (sI (sR (nmr (nw (sR (sI (sR (nw (nw (sR (nw (sR (nw (sR (nw (sR (sI (sR (nw (sR (nmr (nw (uI, uF, uR, 9) 1) 6) 9 0 (some 10)) 1) 9 1 (some 17)) 9 2 0) 8 0 (some 9)) 1) 8 1 (some 18)) 1) 8 2 (some 19)) 1) 8 3 (some 20)) 1) 1) 21 0 (some 22)) 21 1 0) 8 4 (some 21)) 1) 24) 23 0 (some 24)) 23 1 0) 23 3 0) 23 4 0) 23 5 4) 1) 23 6 (some 49)) 23 7 0) 23 2 (some 21)) 8 5 (some 23)) := by
    repeat first
      | exact fA_rfl _ _
      | refine fA_tr ?_ (fA_sI _ _ _ (by omega))
      | refine fA_tr ?_ (fA_sR _ _ _ (by omega))
      | refine fA_tr ?_ (fA_nw _ _)
      | refine fA_tr ?_ (fA_nmr _ _ ⟨Nat.le_of_ble_eq_true rfl, Nat.le_of_ble_eq_true rfl⟩)
  refine key _ _ _ rfl (zr_f hz fr (by omega) (fun a ha => by omega)) ⟨⟨⟨rfl, rfl, rfl, rfl, rfl, rfl⟩, rfl, rfl, rfl, rfl, rfl, rfl⟩, ⟨fun s s0 s1 => ?_, fun c c0 c1 => ?_⟩, rfl, fun s => (hz 17 (by omega) s).1, rfl, fun k => (hz 19 (by omega) k).1⟩ fr (by omega) (by omega)
  · show (if (10 : Nat) = 10 ∧ 0 ≤ s ∧ s < ((6 : Nat) : Int) then some (10 + 1 + s.toNat) else uR 10 s) = some (11 + s.toNat)
    rw [if_pos ⟨rfl, s0, by omega⟩]
  · show (if (24 : Nat) = 24 ∧ 0 ≤ c ∧ c < ((24 : Nat) : Int) then some (24 + 1 + c.toNat) else uR 24 c) = some (25 + c.toNat)
    rw [if_pos ⟨rfl, c0, by omega⟩]
