/-! the constructors -/
def zr (u : aS) (n : Nat) : Prop := ∀ a, n ≤ a → ∀ i, hI u a i = 0 ∧ hF u a i = 0 ∧ hR u a i = none
theorem zr_f {p : Nat → Prop} {u u' : aS} {n m : Nat} (h : zr u n) (hf : fA p u u') (hm : n ≤ m) (hp : ∀ a, m ≤ a → ¬ p a) : zr u' m := by
  intro a ha i
  obtain ⟨e1, e2, e3⟩ := hf.1 a (hp a ha) i
  rw [e1, e2, e3]
  exact h a (by omega) i
theorem y_new {k z n a : Nat} {call : aCall} {Q : aQ} {P : aP} {L st : List aV} {u : aS} {c s : Nat} (e : nx u = a) (hk : kd a = (k, z)) (h1 : 1 ≤ c) (h2 : z ≤ s) (x : P n L (vR a :: st) (nw u 1) (c - 1) (s - z)) : x_new k z n call Q P L st u c s := by
  subst e
  exact ⟨hk, z_big h1 (z_big h2 x)⟩
theorem y_newa {k n a m : Nat} {call : aCall} {Q : aQ} {P : aP} {L st : List aV} {u : aS} {c s : Nat} {i : Int} (e : nx u = a) (hk : kd a = (k, m)) (hi : i = m) (h1 : 1 ≤ c) (h2 : m ≤ s) (x : P n L (vR a :: st) (nw u 1) (c - 1) (s - m)) : x_newa k n call Q P L (.inl i :: st) u c s := by
  subst e
  subst hi
  exact ⟨⟨by omega, hk⟩, z_big h1 (z_big h2 x)⟩
theorem y_mnew {k ke n a m w : Nat} {call : aCall} {Q : aQ} {P : aP} {L st : List aV} {u : aS} {c s : Nat} {i j : Int} (e : nx u = a) (hk : kd a = (k, m)) (hw : ∀ q : Nat, q < m → kd (a + 1 + q) = (ke, w)) (hi : i = m) (hj : j = w) (h1 : 1 + m ≤ c) (h2 : m + m * w ≤ s) (x : P n L (vR a :: st) (nmr u m) (c - (1 + m)) (s - (m + m * w))) : x_mnew k ke n call Q P L (.inl j :: .inl i :: st) u c s := by
  subst e
  subst hi
  subst hj
  exact ⟨⟨by omega, by omega, hk, hw⟩, z_big h1 (z_big h2 x)⟩
theorem i_X4 {d t : Nat} {u : aS} {Q : aQ} (ht : (kd t).1 = 4) (h1 : kd (t + 1) = (26, 14)) (hn : nx u = t + 1) (h : Q none (sI (sI (sR (nw u 1) t 0 (some (t + 1))) t 1 0) t 2 0)) : wpm (d + 1) M_X4_init [vR t] u Q := by
  refine e_X4_init rfl (run [] 60 ?_)
  refine y_newa (call := wpm d) (Q := Q) hn h1 rfl (by omega) (by omega) ?_
  repeat first
    | refine z_gq (by first | omega | (simp [hI_sI, hI_sF, hI_sR, hI_nw, hI_ff, hI_fl, hI_cp]; try omega)) ?_
    | refine z_iq rfl (by first | omega | (simp [hI_sI, hI_sF, hI_sR, hI_nw, hI_ff, hI_fl, hI_cp]; try omega)) (by first | omega | (simp [hI_sI, hI_sF, hI_sR, hI_nw, hI_ff, hI_fl, hI_cp]; try omega)) ?_
    | refine z_kq (ht) ?_
  exact h
theorem isB.kk {B : Nat} (h : isB B) : kd B = (6, 7) := by
  rcases h with e | e | e | e <;> subst e <;> rfl
set_option maxHeartbeats 4000000 in
theorem i_X6 {d B : Nat} {u : aS} {Q : aQ} (hB : isB B) (hn : nx u = B + 1) (hz : zr u B) (h : ∀ u', fA (fun a => B ≤ a ∧ a < B + 20) u u' → nx u' = B + 20 → cT1 u' B (([], 0), [], 0) → Q none u') : wpm (d + 2) M_X6_init [vR B] u Q := by
  rcases hB with e | e | e | e
  · subst e
    refine e_X6_init rfl (run [] 300 ?_)
    refine y_new (call := wpm (d + 1)) (Q := Q) (a := 51) (by simp only [nx_sI, nx_sR, nx_nw, hn]) rfl (by omega) (by omega) ?_
    refine z_big (k := 1) (by omega) ?_
    refine z_big (k := 14) (by omega) ?_
    refine i_X4 (t := 51) rfl rfl (by simp only [nx_sI, nx_sR, nx_nw, hn]) ?_
    refine y_new (call := wpm (d + 1)) (Q := Q) (a := 53) (by simp only [nx_sI, nx_sR, nx_nw, hn]) rfl (by omega) (by omega) ?_
    refine z_big (k := 1) (by omega) ?_
    refine z_big (k := 14) (by omega) ?_
    refine i_X4 (t := 53) rfl rfl (by simp only [nx_sI, nx_sR, nx_nw, hn]) ?_
    refine y_newa (call := wpm (d + 1)) (Q := Q) (a := 55) (m := 4) (by simp only [nx_sI, nx_sR, nx_nw, hn]) rfl rfl (by omega) (by omega) ?_
    refine y_newa (call := wpm (d + 1)) (Q := Q) (a := 56) (m := 2) (by simp only [nx_sI, nx_sR, nx_nw, hn]) rfl rfl (by omega) (by omega) ?_
    refine y_newa (call := wpm (d + 1)) (Q := Q) (a := 57) (m := 2) (by simp only [nx_sI, nx_sR, nx_nw, hn]) rfl rfl (by omega) (by omega) ?_
    refine z_dq (r' := some 55) rfl ?_
    refine y_new (call := wpm (d + 1)) (Q := Q) (a := 58) (by simp only [nx_sI, nx_sR, nx_nw, hn]) rfl (by omega) (by omega) ?_
    refine z_big (k := 1) (by omega) ?_
    refine z_big (k := 14) (by omega) ?_
    refine i_X4 (t := 58) rfl rfl (by simp only [nx_sI, nx_sR, nx_nw, hn]) ?_
    refine z_iq (n := 4) rfl (by omega) (by omega) ?_
    refine z_dq (r' := some 55) rfl ?_
    refine y_new (call := wpm (d + 1)) (Q := Q) (a := 60) (by simp only [nx_sI, nx_sR, nx_nw, hn]) rfl (by omega) (by omega) ?_
    refine z_big (k := 1) (by omega) ?_
    refine z_big (k := 14) (by omega) ?_
    refine i_X4 (t := 60) rfl rfl (by simp only [nx_sI, nx_sR, nx_nw, hn]) ?_
    refine z_iq (n := 4) rfl (by omega) (by omega) ?_
    refine z_dq (r' := some 55) rfl ?_
    refine y_new (call := wpm (d + 1)) (Q := Q) (a := 62) (by simp only [nx_sI, nx_sR, nx_nw, hn]) rfl (by omega) (by omega) ?_
    refine z_big (k := 1) (by omega) ?_
    refine z_big (k := 14) (by omega) ?_
    refine i_X4 (t := 62) rfl rfl (by simp only [nx_sI, nx_sR, nx_nw, hn]) ?_
    refine z_iq (n := 4) rfl (by omega) (by omega) ?_
    refine z_dq (r' := some 55) rfl ?_
    refine y_new (call := wpm (d + 1)) (Q := Q) (a := 64) (by simp only [nx_sI, nx_sR, nx_nw, hn]) rfl (by omega) (by omega) ?_
    refine z_big (k := 1) (by omega) ?_
    refine z_big (k := 14) (by omega) ?_
    refine i_X4 (t := 64) rfl rfl (by simp only [nx_sI, nx_sR, nx_nw, hn]) ?_
    refine z_iq (n := 4) rfl (by omega) (by omega) ?_
    refine z_dq (r' := some 56) rfl ?_
    refine y_new (call := wpm (d + 1)) (Q := Q) (a := 66) (by simp only [nx_sI, nx_sR, nx_nw, hn]) rfl (by omega) (by omega) ?_
    refine z_big (k := 1) (by omega) ?_
    refine z_big (k := 14) (by omega) ?_
    refine i_X4 (t := 66) rfl rfl (by simp only [nx_sI, nx_sR, nx_nw, hn]) ?_
    refine z_iq (n := 2) rfl (by omega) (by omega) ?_
    refine z_dq (r' := some 56) rfl ?_
    refine y_new (call := wpm (d + 1)) (Q := Q) (a := 68) (by simp only [nx_sI, nx_sR, nx_nw, hn]) rfl (by omega) (by omega) ?_
    refine z_big (k := 1) (by omega) ?_
    refine z_big (k := 14) (by omega) ?_
    refine i_X4 (t := 68) rfl rfl (by simp only [nx_sI, nx_sR, nx_nw, hn]) ?_
    refine z_iq (n := 2) rfl (by omega) (by omega) ?_
    have hc : ∀ (t : Nat) (U : aS), hR U t 0 = some (t + 1) → (∀ i, hR U (t + 1) i = none) → cT0 U t := fun t U a b => ⟨a, fun i q _ _ e => by rw [b i] at e; cases e⟩
    have hy : ∀ a, 50 ≤ a → ∀ i, hR u a i = none := fun a ha i => (hz a ha i).2.2
    refine h _ ?_ (by simp only [nx_sI, nx_sR, nx_nw, hn]) ⟨51, 53, 58, 60, 62, 64, ⟨⟨rfl, rfl, rfl, rfl, rfl, rfl, rfl⟩, ⟨rfl, rfl, rfl, rfl⟩, ⟨hc _ _ rfl (hy 52 (by omega)), hc _ _ rfl (hy 54 (by omega)), hc _ _ rfl (hy 59 (by omega)), hc _ _ rfl (hy 61 (by omega)), hc _ _ rfl (hy 63 (by omega)), hc _ _ rfl (hy 65 (by omega)), hc _ _ rfl (hy 67 (by omega)), hc _ _ rfl (hy 69 (by omega))⟩, ?_⟩, ⟨hc _ _ rfl (hy 52 (by omega)), rfl, rfl, fun i p hp => by simp at hp⟩, trivial, rfl, rfl⟩
    · repeat first
        | exact fA_rfl _ _
        | refine fA_tr ?_ (fA_sI _ _ _ (by omega))
        | refine fA_tr ?_ (fA_sR _ _ _ (by omega))
        | refine fA_tr ?_ (fA_nw _ _)
    · unfold tps tA
      omega
  · subst e
    refine e_X6_init rfl (run [] 300 ?_)
    refine y_new (call := wpm (d + 1)) (Q := Q) (a := 71) (by simp only [nx_sI, nx_sR, nx_nw, hn]) rfl (by omega) (by omega) ?_
    refine z_big (k := 1) (by omega) ?_
    refine z_big (k := 14) (by omega) ?_
    refine i_X4 (t := 71) rfl rfl (by simp only [nx_sI, nx_sR, nx_nw, hn]) ?_
    refine y_new (call := wpm (d + 1)) (Q := Q) (a := 73) (by simp only [nx_sI, nx_sR, nx_nw, hn]) rfl (by omega) (by omega) ?_
    refine z_big (k := 1) (by omega) ?_
    refine z_big (k := 14) (by omega) ?_
    refine i_X4 (t := 73) rfl rfl (by simp only [nx_sI, nx_sR, nx_nw, hn]) ?_
    refine y_newa (call := wpm (d + 1)) (Q := Q) (a := 75) (m := 4) (by simp only [nx_sI, nx_sR, nx_nw, hn]) rfl rfl (by omega) (by omega) ?_
    refine y_newa (call := wpm (d + 1)) (Q := Q) (a := 76) (m := 2) (by simp only [nx_sI, nx_sR, nx_nw, hn]) rfl rfl (by omega) (by omega) ?_
    refine y_newa (call := wpm (d + 1)) (Q := Q) (a := 77) (m := 2) (by simp only [nx_sI, nx_sR, nx_nw, hn]) rfl rfl (by omega) (by omega) ?_
    refine z_dq (r' := some 75) rfl ?_
    refine y_new (call := wpm (d + 1)) (Q := Q) (a := 78) (by simp only [nx_sI, nx_sR, nx_nw, hn]) rfl (by omega) (by omega) ?_
    refine z_big (k := 1) (by omega) ?_
    refine z_big (k := 14) (by omega) ?_
    refine i_X4 (t := 78) rfl rfl (by simp only [nx_sI, nx_sR, nx_nw, hn]) ?_
    refine z_iq (n := 4) rfl (by omega) (by omega) ?_
    refine z_dq (r' := some 75) rfl ?_
    refine y_new (call := wpm (d + 1)) (Q := Q) (a := 80) (by simp only [nx_sI, nx_sR, nx_nw, hn]) rfl (by omega) (by omega) ?_
    refine z_big (k := 1) (by omega) ?_
    refine z_big (k := 14) (by omega) ?_
    refine i_X4 (t := 80) rfl rfl (by simp only [nx_sI, nx_sR, nx_nw, hn]) ?_
    refine z_iq (n := 4) rfl (by omega) (by omega) ?_
    refine z_dq (r' := some 75) rfl ?_
    refine y_new (call := wpm (d + 1)) (Q := Q) (a := 82) (by simp only [nx_sI, nx_sR, nx_nw, hn]) rfl (by omega) (by omega) ?_
    refine z_big (k := 1) (by omega) ?_
    refine z_big (k := 14) (by omega) ?_
    refine i_X4 (t := 82) rfl rfl (by simp only [nx_sI, nx_sR, nx_nw, hn]) ?_
    refine z_iq (n := 4) rfl (by omega) (by omega) ?_
    refine z_dq (r' := some 75) rfl ?_
    refine y_new (call := wpm (d + 1)) (Q := Q) (a := 84) (by simp only [nx_sI, nx_sR, nx_nw, hn]) rfl (by omega) (by omega) ?_
    refine z_big (k := 1) (by omega) ?_
    refine z_big (k := 14) (by omega) ?_
    refine i_X4 (t := 84) rfl rfl (by simp only [nx_sI, nx_sR, nx_nw, hn]) ?_
    refine z_iq (n := 4) rfl (by omega) (by omega) ?_
    refine z_dq (r' := some 76) rfl ?_
    refine y_new (call := wpm (d + 1)) (Q := Q) (a := 86) (by simp only [nx_sI, nx_sR, nx_nw, hn]) rfl (by omega) (by omega) ?_
    refine z_big (k := 1) (by omega) ?_
    refine z_big (k := 14) (by omega) ?_
    refine i_X4 (t := 86) rfl rfl (by simp only [nx_sI, nx_sR, nx_nw, hn]) ?_
    refine z_iq (n := 2) rfl (by omega) (by omega) ?_
    refine z_dq (r' := some 76) rfl ?_
    refine y_new (call := wpm (d + 1)) (Q := Q) (a := 88) (by simp only [nx_sI, nx_sR, nx_nw, hn]) rfl (by omega) (by omega) ?_
    refine z_big (k := 1) (by omega) ?_
    refine z_big (k := 14) (by omega) ?_
    refine i_X4 (t := 88) rfl rfl (by simp only [nx_sI, nx_sR, nx_nw, hn]) ?_
    refine z_iq (n := 2) rfl (by omega) (by omega) ?_
    have hc : ∀ (t : Nat) (U : aS), hR U t 0 = some (t + 1) → (∀ i, hR U (t + 1) i = none) → cT0 U t := fun t U a b => ⟨a, fun i q _ _ e => by rw [b i] at e; cases e⟩
    have hy : ∀ a, 70 ≤ a → ∀ i, hR u a i = none := fun a ha i => (hz a ha i).2.2
    refine h _ ?_ (by simp only [nx_sI, nx_sR, nx_nw, hn]) ⟨71, 73, 78, 80, 82, 84, ⟨⟨rfl, rfl, rfl, rfl, rfl, rfl, rfl⟩, ⟨rfl, rfl, rfl, rfl⟩, ⟨hc _ _ rfl (hy 72 (by omega)), hc _ _ rfl (hy 74 (by omega)), hc _ _ rfl (hy 79 (by omega)), hc _ _ rfl (hy 81 (by omega)), hc _ _ rfl (hy 83 (by omega)), hc _ _ rfl (hy 85 (by omega)), hc _ _ rfl (hy 87 (by omega)), hc _ _ rfl (hy 89 (by omega))⟩, ?_⟩, ⟨hc _ _ rfl (hy 72 (by omega)), rfl, rfl, fun i p hp => by simp at hp⟩, trivial, rfl, rfl⟩
    · repeat first
        | exact fA_rfl _ _
        | refine fA_tr ?_ (fA_sI _ _ _ (by omega))
        | refine fA_tr ?_ (fA_sR _ _ _ (by omega))
        | refine fA_tr ?_ (fA_nw _ _)
    · unfold tps tA
      omega
  · subst e
    refine e_X6_init rfl (run [] 300 ?_)
    refine y_new (call := wpm (d + 1)) (Q := Q) (a := 91) (by simp only [nx_sI, nx_sR, nx_nw, hn]) rfl (by omega) (by omega) ?_
    refine z_big (k := 1) (by omega) ?_
    refine z_big (k := 14) (by omega) ?_
    refine i_X4 (t := 91) rfl rfl (by simp only [nx_sI, nx_sR, nx_nw, hn]) ?_
    refine y_new (call := wpm (d + 1)) (Q := Q) (a := 93) (by simp only [nx_sI, nx_sR, nx_nw, hn]) rfl (by omega) (by omega) ?_
    refine z_big (k := 1) (by omega) ?_
    refine z_big (k := 14) (by omega) ?_
    refine i_X4 (t := 93) rfl rfl (by simp only [nx_sI, nx_sR, nx_nw, hn]) ?_
    refine y_newa (call := wpm (d + 1)) (Q := Q) (a := 95) (m := 4) (by simp only [nx_sI, nx_sR, nx_nw, hn]) rfl rfl (by omega) (by omega) ?_
    refine y_newa (call := wpm (d + 1)) (Q := Q) (a := 96) (m := 2) (by simp only [nx_sI, nx_sR, nx_nw, hn]) rfl rfl (by omega) (by omega) ?_
    refine y_newa (call := wpm (d + 1)) (Q := Q) (a := 97) (m := 2) (by simp only [nx_sI, nx_sR, nx_nw, hn]) rfl rfl (by omega) (by omega) ?_
    refine z_dq (r' := some 95) rfl ?_
    refine y_new (call := wpm (d + 1)) (Q := Q) (a := 98) (by simp only [nx_sI, nx_sR, nx_nw, hn]) rfl (by omega) (by omega) ?_
    refine z_big (k := 1) (by omega) ?_
    refine z_big (k := 14) (by omega) ?_
    refine i_X4 (t := 98) rfl rfl (by simp only [nx_sI, nx_sR, nx_nw, hn]) ?_
    refine z_iq (n := 4) rfl (by omega) (by omega) ?_
    refine z_dq (r' := some 95) rfl ?_
    refine y_new (call := wpm (d + 1)) (Q := Q) (a := 100) (by simp only [nx_sI, nx_sR, nx_nw, hn]) rfl (by omega) (by omega) ?_
    refine z_big (k := 1) (by omega) ?_
    refine z_big (k := 14) (by omega) ?_
    refine i_X4 (t := 100) rfl rfl (by simp only [nx_sI, nx_sR, nx_nw, hn]) ?_
    refine z_iq (n := 4) rfl (by omega) (by omega) ?_
    refine z_dq (r' := some 95) rfl ?_
    refine y_new (call := wpm (d + 1)) (Q := Q) (a := 102) (by simp only [nx_sI, nx_sR, nx_nw, hn]) rfl (by omega) (by omega) ?_
    refine z_big (k := 1) (by omega) ?_
    refine z_big (k := 14) (by omega) ?_
    refine i_X4 (t := 102) rfl rfl (by simp only [nx_sI, nx_sR, nx_nw, hn]) ?_
    refine z_iq (n := 4) rfl (by omega) (by omega) ?_
    refine z_dq (r' := some 95) rfl ?_
    refine y_new (call := wpm (d + 1)) (Q := Q) (a := 104) (by simp only [nx_sI, nx_sR, nx_nw, hn]) rfl (by omega) (by omega) ?_
    refine z_big (k := 1) (by omega) ?_
    refine z_big (k := 14) (by omega) ?_
    refine i_X4 (t := 104) rfl rfl (by simp only [nx_sI, nx_sR, nx_nw, hn]) ?_
    refine z_iq (n := 4) rfl (by omega) (by omega) ?_
    refine z_dq (r' := some 96) rfl ?_
    refine y_new (call := wpm (d + 1)) (Q := Q) (a := 106) (by simp only [nx_sI, nx_sR, nx_nw, hn]) rfl (by omega) (by omega) ?_
    refine z_big (k := 1) (by omega) ?_
    refine z_big (k := 14) (by omega) ?_
    refine i_X4 (t := 106) rfl rfl (by simp only [nx_sI, nx_sR, nx_nw, hn]) ?_
    refine z_iq (n := 2) rfl (by omega) (by omega) ?_
    refine z_dq (r' := some 96) rfl ?_
    refine y_new (call := wpm (d + 1)) (Q := Q) (a := 108) (by simp only [nx_sI, nx_sR, nx_nw, hn]) rfl (by omega) (by omega) ?_
    refine z_big (k := 1) (by omega) ?_
    refine z_big (k := 14) (by omega) ?_
    refine i_X4 (t := 108) rfl rfl (by simp only [nx_sI, nx_sR, nx_nw, hn]) ?_
    refine z_iq (n := 2) rfl (by omega) (by omega) ?_
    have hc : ∀ (t : Nat) (U : aS), hR U t 0 = some (t + 1) → (∀ i, hR U (t + 1) i = none) → cT0 U t := fun t U a b => ⟨a, fun i q _ _ e => by rw [b i] at e; cases e⟩
    have hy : ∀ a, 90 ≤ a → ∀ i, hR u a i = none := fun a ha i => (hz a ha i).2.2
    refine h _ ?_ (by simp only [nx_sI, nx_sR, nx_nw, hn]) ⟨91, 93, 98, 100, 102, 104, ⟨⟨rfl, rfl, rfl, rfl, rfl, rfl, rfl⟩, ⟨rfl, rfl, rfl, rfl⟩, ⟨hc _ _ rfl (hy 92 (by omega)), hc _ _ rfl (hy 94 (by omega)), hc _ _ rfl (hy 99 (by omega)), hc _ _ rfl (hy 101 (by omega)), hc _ _ rfl (hy 103 (by omega)), hc _ _ rfl (hy 105 (by omega)), hc _ _ rfl (hy 107 (by omega)), hc _ _ rfl (hy 109 (by omega))⟩, ?_⟩, ⟨hc _ _ rfl (hy 92 (by omega)), rfl, rfl, fun i p hp => by simp at hp⟩, trivial, rfl, rfl⟩
    · repeat first
        | exact fA_rfl _ _
        | refine fA_tr ?_ (fA_sI _ _ _ (by omega))
        | refine fA_tr ?_ (fA_sR _ _ _ (by omega))
        | refine fA_tr ?_ (fA_nw _ _)
    · unfold tps tA
      omega
  · subst e
    refine e_X6_init rfl (run [] 300 ?_)
    refine y_new (call := wpm (d + 1)) (Q := Q) (a := 111) (by simp only [nx_sI, nx_sR, nx_nw, hn]) rfl (by omega) (by omega) ?_
    refine z_big (k := 1) (by omega) ?_
    refine z_big (k := 14) (by omega) ?_
    refine i_X4 (t := 111) rfl rfl (by simp only [nx_sI, nx_sR, nx_nw, hn]) ?_
    refine y_new (call := wpm (d + 1)) (Q := Q) (a := 113) (by simp only [nx_sI, nx_sR, nx_nw, hn]) rfl (by omega) (by omega) ?_
    refine z_big (k := 1) (by omega) ?_
    refine z_big (k := 14) (by omega) ?_
    refine i_X4 (t := 113) rfl rfl (by simp only [nx_sI, nx_sR, nx_nw, hn]) ?_
    refine y_newa (call := wpm (d + 1)) (Q := Q) (a := 115) (m := 4) (by simp only [nx_sI, nx_sR, nx_nw, hn]) rfl rfl (by omega) (by omega) ?_
    refine y_newa (call := wpm (d + 1)) (Q := Q) (a := 116) (m := 2) (by simp only [nx_sI, nx_sR, nx_nw, hn]) rfl rfl (by omega) (by omega) ?_
    refine y_newa (call := wpm (d + 1)) (Q := Q) (a := 117) (m := 2) (by simp only [nx_sI, nx_sR, nx_nw, hn]) rfl rfl (by omega) (by omega) ?_
    refine z_dq (r' := some 115) rfl ?_
    refine y_new (call := wpm (d + 1)) (Q := Q) (a := 118) (by simp only [nx_sI, nx_sR, nx_nw, hn]) rfl (by omega) (by omega) ?_
    refine z_big (k := 1) (by omega) ?_
    refine z_big (k := 14) (by omega) ?_
    refine i_X4 (t := 118) rfl rfl (by simp only [nx_sI, nx_sR, nx_nw, hn]) ?_
    refine z_iq (n := 4) rfl (by omega) (by omega) ?_
    refine z_dq (r' := some 115) rfl ?_
    refine y_new (call := wpm (d + 1)) (Q := Q) (a := 120) (by simp only [nx_sI, nx_sR, nx_nw, hn]) rfl (by omega) (by omega) ?_
    refine z_big (k := 1) (by omega) ?_
    refine z_big (k := 14) (by omega) ?_
    refine i_X4 (t := 120) rfl rfl (by simp only [nx_sI, nx_sR, nx_nw, hn]) ?_
    refine z_iq (n := 4) rfl (by omega) (by omega) ?_
    refine z_dq (r' := some 115) rfl ?_
    refine y_new (call := wpm (d + 1)) (Q := Q) (a := 122) (by simp only [nx_sI, nx_sR, nx_nw, hn]) rfl (by omega) (by omega) ?_
    refine z_big (k := 1) (by omega) ?_
    refine z_big (k := 14) (by omega) ?_
    refine i_X4 (t := 122) rfl rfl (by simp only [nx_sI, nx_sR, nx_nw, hn]) ?_
    refine z_iq (n := 4) rfl (by omega) (by omega) ?_
    refine z_dq (r' := some 115) rfl ?_
    refine y_new (call := wpm (d + 1)) (Q := Q) (a := 124) (by simp only [nx_sI, nx_sR, nx_nw, hn]) rfl (by omega) (by omega) ?_
    refine z_big (k := 1) (by omega) ?_
    refine z_big (k := 14) (by omega) ?_
    refine i_X4 (t := 124) rfl rfl (by simp only [nx_sI, nx_sR, nx_nw, hn]) ?_
    refine z_iq (n := 4) rfl (by omega) (by omega) ?_
    refine z_dq (r' := some 116) rfl ?_
    refine y_new (call := wpm (d + 1)) (Q := Q) (a := 126) (by simp only [nx_sI, nx_sR, nx_nw, hn]) rfl (by omega) (by omega) ?_
    refine z_big (k := 1) (by omega) ?_
    refine z_big (k := 14) (by omega) ?_
    refine i_X4 (t := 126) rfl rfl (by simp only [nx_sI, nx_sR, nx_nw, hn]) ?_
    refine z_iq (n := 2) rfl (by omega) (by omega) ?_
    refine z_dq (r' := some 116) rfl ?_
    refine y_new (call := wpm (d + 1)) (Q := Q) (a := 128) (by simp only [nx_sI, nx_sR, nx_nw, hn]) rfl (by omega) (by omega) ?_
    refine z_big (k := 1) (by omega) ?_
    refine z_big (k := 14) (by omega) ?_
    refine i_X4 (t := 128) rfl rfl (by simp only [nx_sI, nx_sR, nx_nw, hn]) ?_
    refine z_iq (n := 2) rfl (by omega) (by omega) ?_
    have hc : ∀ (t : Nat) (U : aS), hR U t 0 = some (t + 1) → (∀ i, hR U (t + 1) i = none) → cT0 U t := fun t U a b => ⟨a, fun i q _ _ e => by rw [b i] at e; cases e⟩
    have hy : ∀ a, 110 ≤ a → ∀ i, hR u a i = none := fun a ha i => (hz a ha i).2.2
    refine h _ ?_ (by simp only [nx_sI, nx_sR, nx_nw, hn]) ⟨111, 113, 118, 120, 122, 124, ⟨⟨rfl, rfl, rfl, rfl, rfl, rfl, rfl⟩, ⟨rfl, rfl, rfl, rfl⟩, ⟨hc _ _ rfl (hy 112 (by omega)), hc _ _ rfl (hy 114 (by omega)), hc _ _ rfl (hy 119 (by omega)), hc _ _ rfl (hy 121 (by omega)), hc _ _ rfl (hy 123 (by omega)), hc _ _ rfl (hy 125 (by omega)), hc _ _ rfl (hy 127 (by omega)), hc _ _ rfl (hy 129 (by omega))⟩, ?_⟩, ⟨hc _ _ rfl (hy 112 (by omega)), rfl, rfl, fun i p hp => by simp at hp⟩, trivial, rfl, rfl⟩
    · repeat first
        | exact fA_rfl _ _
        | refine fA_tr ?_ (fA_sI _ _ _ (by omega))
        | refine fA_tr ?_ (fA_sR _ _ _ (by omega))
        | refine fA_tr ?_ (fA_nw _ _)
    · unfold tps tA
      omega
theorem i_X0 {d R : Nat} {u : aS} {Q : aQ} (hR : isRk R) (hn : nx u = R + 1) (hz : zr u R) (h : ∀ u', fA (fun a => R ≤ a ∧ a < R + 3) u u' → nx u' = R + 3 → cR1 u' R (-1) 0 (fun _ => 0) → Q none u') : wpm (d + 1) M_X0_init [vR R] u Q := by
  rcases hR with e | e | e
  · subst e
    refine e_X0_init rfl (run [] 100 ?_)
    refine y_newa (call := wpm d) (Q := Q) (a := 131) (m := 8) (by simp only [nx_sI, nx_sR, nx_nw, hn]) rfl rfl (by omega) (by omega) ?_
    refine y_newa (call := wpm d) (Q := Q) (a := 132) (m := 8) (by simp only [nx_sI, nx_sR, nx_nw, hn]) rfl rfl (by omega) (by omega) ?_
    refine h _ ?_ (by simp only [nx_sI, nx_sR, nx_nw, hn]) ⟨rfl, rfl, rfl, fun z => absurd rfl z, rfl, fun j j0 j1 => ?_⟩
    · repeat first
        | exact fA_rfl _ _
        | refine fA_tr ?_ (fA_sI _ _ _ (by omega))
        | refine fA_tr ?_ (fA_sR _ _ _ (by omega))
        | refine fA_tr ?_ (fA_nw _ _)
    · show cTh (hI u 131 j) (hI u 132 j) 0
      rw [(hz 131 (by omega) j).1, (hz 132 (by omega) j).1]
      exact ⟨by omega, Or.inl ⟨rfl, rfl⟩⟩
  · subst e
    refine e_X0_init rfl (run [] 100 ?_)
    refine y_newa (call := wpm d) (Q := Q) (a := 134) (m := 8) (by simp only [nx_sI, nx_sR, nx_nw, hn]) rfl rfl (by omega) (by omega) ?_
    refine y_newa (call := wpm d) (Q := Q) (a := 135) (m := 8) (by simp only [nx_sI, nx_sR, nx_nw, hn]) rfl rfl (by omega) (by omega) ?_
    refine h _ ?_ (by simp only [nx_sI, nx_sR, nx_nw, hn]) ⟨rfl, rfl, rfl, fun z => absurd rfl z, rfl, fun j j0 j1 => ?_⟩
    · repeat first
        | exact fA_rfl _ _
        | refine fA_tr ?_ (fA_sI _ _ _ (by omega))
        | refine fA_tr ?_ (fA_sR _ _ _ (by omega))
        | refine fA_tr ?_ (fA_nw _ _)
    · show cTh (hI u 134 j) (hI u 135 j) 0
      rw [(hz 134 (by omega) j).1, (hz 135 (by omega) j).1]
      exact ⟨by omega, Or.inl ⟨rfl, rfl⟩⟩
  · subst e
    refine e_X0_init rfl (run [] 100 ?_)
    refine y_newa (call := wpm d) (Q := Q) (a := 137) (m := 8) (by simp only [nx_sI, nx_sR, nx_nw, hn]) rfl rfl (by omega) (by omega) ?_
    refine y_newa (call := wpm d) (Q := Q) (a := 138) (m := 8) (by simp only [nx_sI, nx_sR, nx_nw, hn]) rfl rfl (by omega) (by omega) ?_
    refine h _ ?_ (by simp only [nx_sI, nx_sR, nx_nw, hn]) ⟨rfl, rfl, rfl, fun z => absurd rfl z, rfl, fun j j0 j1 => ?_⟩
    · repeat first
        | exact fA_rfl _ _
        | refine fA_tr ?_ (fA_sI _ _ _ (by omega))
        | refine fA_tr ?_ (fA_sR _ _ _ (by omega))
        | refine fA_tr ?_ (fA_nw _ _)
    · show cTh (hI u 137 j) (hI u 138 j) 0
      rw [(hz 137 (by omega) j).1, (hz 138 (by omega) j).1]
      exact ⟨by omega, Or.inl ⟨rfl, rfl⟩⟩
