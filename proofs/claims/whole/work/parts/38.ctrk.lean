/-! tracks: the class -/
def isB (B : Nat) : Prop := B = 50 ∨ B = 70 ∨ B = 90 ∨ B = 110
theorem isB.k0 {B : Nat} (h : isB B) : (kd B).1 = 6 := by
  rcases h with h | h | h | h <;> subst h <;> rfl
theorem isB.k5 {B : Nat} (h : isB B) : kd (B + 5) = (25, 4) := by
  rcases h with h | h | h | h <;> subst h <;> rfl
theorem isB.k6 {B : Nat} (h : isB B) : kd (B + 6) = (25, 2) := by
  rcases h with h | h | h | h <;> subst h <;> rfl
theorem isB.k7 {B : Nat} (h : isB B) : kd (B + 7) = (22, 2) := by
  rcases h with h | h | h | h <;> subst h <;> rfl
theorem isB.tp {B a : Nat} (h : isB B) (ha : tA B a) : isTp a := by
  unfold tA at ha
  unfold isTp
  rcases h with h | h | h | h <;> subst h <;> rcases ha with e | e | e | e | e | e <;> subst e <;> exact ⟨rfl, rfl, by omega⟩
theorem isB.tp6 {B : Nat} (h : isB B) : isTp (B + 16) := by
  unfold isTp
  rcases h with h | h | h | h <;> subst h <;> exact ⟨rfl, rfl, by omega⟩
theorem isB.tp8 {B : Nat} (h : isB B) : isTp (B + 18) := by
  unfold isTp
  rcases h with h | h | h | h <;> subst h <;> exact ⟨rfl, rfl, by omega⟩
theorem isB_k {k : Int} (h0 : 0 ≤ k) (h1 : k ≤ 3) : isB (50 + 20 * k.toNat) := by
  unfold isB
  omega
theorem isB.le {B : Nat} (h : isB B) : 50 ≤ B ∧ B ≤ 110 := by
  unfold isB at h
  omega
theorem cP_len {u : aS} : ∀ (l : List Tk) (r : List Nat), cP u l r → l.length ≤ r.length
  | [], _, _ => Nat.zero_le _
  | _ :: _, [], h => h.elim
  | t :: l, q :: r, h => by
    have := cP_len l r h.2
    simp
    omega
theorem cP_take {u : aS} : ∀ (n : Nat) (l : List Tk) (r : List Nat), cP u l r → cP u (l.take n) (r.take n)
  | 0, l, r, h => by
    simp
    exact trivial
  | n + 1, [], r, h => trivial
  | n + 1, _ :: _, [], h => h.elim
  | n + 1, t :: l, q :: r, h => ⟨h.1, cP_take n l r h.2⟩
theorem cP_app {u : aS} : ∀ (l : List Tk) (r s : List Nat), cP u l r → cP u l (r ++ s)
  | [], _, _, _ => trivial
  | _ :: _, [], _, h => h.elim
  | t :: l, q :: r, s, h => ⟨h.1, cP_app l r s h.2⟩
def cW (u : aS) (B a0 a1 p0 p1 p2 p3 : Nat) (K : Tk × List Tk × Int) : Prop := cB u B a0 a1 p0 p1 p2 p3 ∧ cTk u a0 K.1 ∧ cP u K.2.1 [p0, p1, p2, p3] ∧ hI u B 3 = K.2.1.length ∧ hI u B 4 = K.2.2
theorem tA_b {B a : Nat} (h : tA B a) : B < a ∧ a + 1 < B + 16 ∧ ¬ a = B + 5 ∧ ¬ a + 1 = B + 5 ∧ ¬ a = B + 6 ∧ ¬ a + 1 = B + 6 ∧ ¬ a = B + 7 ∧ ¬ a + 1 = B + 7 := by
  unfold tA at h
  omega
theorem tA_n {B a b : Nat} (ha : tA B a) (hb : tA B b) (h : ¬ a = b) : ¬ a = b + 1 ∧ ¬ a + 1 = b := by
  unfold tA at ha hb
  omega
theorem cB_d {u u' : aS} {B a0 a1 p0 p1 p2 p3 : Nat} (hB : isB B) (hb : cB u B a0 a1 p0 p1 p2 p3) (hx : 156 ≤ nx u) (hf : fA (fun x => x = a1 ∨ x = a1 + 1 ∨ nx u ≤ x) u u') (h : cT0 u' a1) : cB u' B a0 a1 p0 p1 p2 p3 := by
  obtain ⟨hb1, hb2, ⟨c0, c1, c2, c3, c4, c5, c6, c7⟩, ⟨⟨t0, t1, t2, t3, t4, t5⟩, n1, n2, n3, n4, n5⟩⟩ := hb
  have b1 := tA_b t1
  have hl := hB.le
  have st : ∀ t, tA B t → ¬ a1 = t → cT0 u t → cT0 u' t := by
    intro t ht hne hc
    have := tA_n t1 ht hne
    have := tA_b ht
    exact cT0_f hf (by omega) (by omega) hc
  refine ⟨?_, ?_, ⟨st _ t0 (by omega) c0, h, st _ t2 (by omega) c2, st _ t3 (by omega) c3, st _ t4 (by omega) c4, st _ t5 (by omega) c5, cT0_f hf (by omega) (by omega) c6, cT0_f hf (by omega) (by omega) c7⟩, ⟨⟨t0, t1, t2, t3, t4, t5⟩, n1, n2, n3, n4, n5⟩⟩
  · simp only [(hf.1 B (by omega) _).2.2, (hf.1 (B + 6) (by omega) _).2.2]
    exact hb1
  · simp only [(hf.1 (B + 5) (by omega) _).2.2]
    exact hb2
theorem cW_d {u u' : aS} {B a0 a1 p0 p1 p2 p3 : Nat} {K : Tk × List Tk × Int} (hB : isB B) (hW : cW u B a0 a1 p0 p1 p2 p3 K) (hx : 156 ≤ nx u) (hf : fA (fun x => x = a1 ∨ x = a1 + 1 ∨ nx u ≤ x) u u') (h : cT0 u' a1) : cW u' B a0 a1 p0 p1 p2 p3 K := by
  obtain ⟨hb, h1, h2, h3, h4⟩ := hW
  have hb' := cB_d hB hb hx hf h
  obtain ⟨_, _, _, ⟨⟨t0, t1, t2, t3, t4, t5⟩, n1, n2, n3, n4, n5⟩⟩ := hb
  have b1 := tA_b t1
  have hl := hB.le
  have st : ∀ t, tA B t → ¬ a1 = t → ¬ (t = a1 ∨ t = a1 + 1 ∨ nx u ≤ t) ∧ ¬ (t + 1 = a1 ∨ t + 1 = a1 + 1 ∨ nx u ≤ t + 1) := by
    intro t ht hne
    have := tA_n t1 ht hne
    have := tA_b ht
    omega
  refine ⟨hb', cTk_f hf (st _ t0 (by omega)).1 (st _ t0 (by omega)).2 (fun b _ _ => by omega) h1, cP_f hf (fun b _ _ => by omega) _ _ (fun t ht => ?_) h2, ?_, ?_⟩
  · simp only [List.mem_cons, List.not_mem_nil, or_false] at ht
    rcases ht with e | e | e | e <;> subst e
    · exact st _ t2 (by omega)
    · exact st _ t3 (by omega)
    · exact st _ t4 (by omega)
    · exact st _ t5 (by omega)
  · rw [(hf.1 B (by omega) _).1]
    exact h3
  · rw [(hf.1 B (by omega) _).1]
    exact h4
/-- the pointers have changed -/
theorem cW_p {u u' : aS} {B a0 a1 p0 p1 p2 p3 : Nat} {K : Tk × List Tk × Int} (hB : isB B) (hf : fA (fun x => x = B ∨ x = B + 5) u u') (hr : (hR u' B 0 = some a0 ∧ hR u' B 1 = some a1 ∧ hR u' B 2 = some (B + 5) ∧ hR u' B 5 = some (B + 6) ∧ hR u' B 6 = some (B + 7) ∧ hR u (B + 6) 0 = some (B + 16) ∧ hR u (B + 6) 1 = some (B + 18)) ∧ (hR u' (B + 5) 0 = some p0 ∧ hR u' (B + 5) 1 = some p1 ∧ hR u' (B + 5) 2 = some p2 ∧ hR u' (B + 5) 3 = some p3)) (hc : cT0 u a0 ∧ cT0 u a1 ∧ cT0 u p0 ∧ cT0 u p1 ∧ cT0 u p2 ∧ cT0 u p3 ∧ cT0 u (B + 16) ∧ cT0 u (B + 18)) (ht : tps B a0 a1 p0 p1 p2 p3) (h1 : cTk u a0 K.1) (h2 : cP u K.2.1 [p0, p1, p2, p3]) (h3 : hI u' B 3 = K.2.1.length) (h4 : hI u' B 4 = K.2.2) : cW u' B a0 a1 p0 p1 p2 p3 K := by
  have hl := hB.le
  obtain ⟨⟨r0, r1, r2, r5, r6, s0, s1⟩, hq⟩ := hr
  obtain ⟨c0, c1, c2, c3, c4, c5, c6, c7⟩ := hc
  have ht' := ht
  obtain ⟨⟨t0, t1, t2, t3, t4, t5⟩, _⟩ := ht
  have st : ∀ t, tA B t → ¬ (t = B ∨ t = B + 5) ∧ ¬ (t + 1 = B ∨ t + 1 = B + 5) := by
    intro t ht
    have := tA_b ht
    omega
  refine ⟨⟨⟨r0, r1, r2, r5, r6, ?_, ?_⟩, hq, ⟨cT0_f hf (st _ t0).1 (st _ t0).2 c0, cT0_f hf (st _ t1).1 (st _ t1).2 c1, cT0_f hf (st _ t2).1 (st _ t2).2 c2, cT0_f hf (st _ t3).1 (st _ t3).2 c3, cT0_f hf (st _ t4).1 (st _ t4).2 c4, cT0_f hf (st _ t5).1 (st _ t5).2 c5, cT0_f hf (by omega) (by omega) c6, cT0_f hf (by omega) (by omega) c7⟩, ht'⟩, cTk_f hf (st _ t0).1 (st _ t0).2 (fun b _ _ => by omega) h1, cP_f hf (fun b _ _ => by omega) _ _ (fun t hm => ?_) h2, h3, h4⟩
  · rw [(hf.1 (B + 6) (by omega) _).2.2]
    exact s0
  · rw [(hf.1 (B + 6) (by omega) _).2.2]
    exact s1
  · simp only [List.mem_cons, List.not_mem_nil, or_false] at hm
    rcases hm with e | e | e | e <;> subst e
    · exact st _ t2
    · exact st _ t3
    · exact st _ t4
    · exact st _ t5
set_option maxHeartbeats 4000000 in
theorem k_accept {d : Nat} {B a0 a1 p0 p1 p2 p3 : Nat} {K : Tk × List Tk × Int} {D : Tk} {u : aS} {Q : aQ} (hB : isB B) (hW : cW u B a0 a1 p0 p1 p2 p3 K) (hD : cTk u a1 D) (hl : D.1.length ≤ 14) (hf : 12 < D.1.length → Q (some (vI 0)) u) (h : D.1.length ≤ 12 → ∀ u', fA (fun a => a = B ∨ a = B + 5) u u' → nx u' = nx u → cW u' B a1 p3 a0 p0 p1 p2 (D, hst K.1 K.2.1, K.2.2) → Q (some (vI 1)) u') : wpm (d + 2) M_X6_acceptDraft [vR B] u Q := by
  obtain ⟨hb, h1, h2, h3, h4⟩ := hW
  have hb0 := hb
  obtain ⟨⟨r0, r1, r2, r5, r6, s0, s1⟩, ⟨q0, q1, q2, q3⟩, ⟨c0, c1, c2, c3, c4, c5, c6, c7⟩, ⟨⟨t0, t1, t2, t3, t4, t5⟩, n1, n2, n3, n4, n5⟩⟩ := hb
  have kB := hB.k0
  have k5 := hB.k5
  have k1 := (hB.tp t1).1
  have ka := (hB.tp t0).1
  have kp0 := (hB.tp t2).1
  have kp1 := (hB.tp t3).1
  have kp2 := (hB.tp t4).1
  have kp3 := (hB.tp t5).1
  have hl0 := hB.le
  have z1 : hI u a1 1 = D.1.length := hD.2.1
  have hlen := cP_len _ _ h2
  simp at hlen
  refine e_X6_acceptDraft rfl (run [] 100 ?_)
  repeat first
    | refine z_gq (by first | omega | (simp [hI_sI, hI_sF, hI_sR, hI_nw, hI_ff, hI_fl, hI_cp]; try omega)) ?_
    | refine z_iq rfl (by first | omega | (simp [hI_sI, hI_sF, hI_sR, hI_nw, hI_ff, hI_fl, hI_cp]; try omega)) (by first | omega | (simp [hI_sI, hI_sF, hI_sR, hI_nw, hI_ff, hI_fl, hI_cp]; try omega)) ?_
    | refine z_kq (kB) ?_
    | refine z_dq (r1) ?_
    | refine z_kq (k1) ?_
  refine z_bq (fun hz => hf (by omega)) (fun hz => ?_)
  refine z_kq kB ?_
  refine z_dq r2 ?_
  refine z_iq k5 (by omega) (by omega) ?_
  refine z_dq q3 ?_
  refine z_kq kB ?_
  refine z_dq r2 ?_
  refine z_kq kB ?_
  refine z_dq r2 ?_
  refine z_iq k5 (by omega) (by omega) ?_
  refine z_dq q2 ?_
  refine z_iq k5 (by omega) (by omega) ?_
  refine z_kq kp2 ?_
  generalize e_1 : sR u (B + 5) 3 (some p2) = u1
  have g1_B0 : hR u1 B 0 = some a0 := by rw [← e_1, hR_sR, if_neg (by omega)]; exact r0
  have g1_B1 : hR u1 B 1 = some a1 := by rw [← e_1, hR_sR, if_neg (by omega)]; exact r1
  have g1_B2 : hR u1 B 2 = some (B + 5) := by rw [← e_1, hR_sR, if_neg (by omega)]; exact r2
  have g1_B5 : hR u1 B 5 = some (B + 6) := by rw [← e_1, hR_sR, if_neg (by omega)]; exact r5
  have g1_B6 : hR u1 B 6 = some (B + 7) := by rw [← e_1, hR_sR, if_neg (by omega)]; exact r6
  have g1_B50 : hR u1 (B + 5) 0 = some p0 := by rw [← e_1, hR_sR, if_neg (by omega)]; exact q0
  have g1_B51 : hR u1 (B + 5) 1 = some p1 := by rw [← e_1, hR_sR, if_neg (by omega)]; exact q1
  have g1_B52 : hR u1 (B + 5) 2 = some p2 := by rw [← e_1, hR_sR, if_neg (by omega)]; exact q2
  have g1_B53 : hR u1 (B + 5) 3 = some p2 := by rw [← e_1, hR_sR, if_pos ⟨rfl, rfl⟩]
  have x1 : nx u1 = nx u := by rw [← e_1]; exact rfl
  have F1 : fA (fun a => a = B ∨ a = B + 5) u u1 := by rw [← e_1]; exact fA_sR _ _ _ (by omega)
  have y1 : hI u1 B 3 = hI u B 3 := by rw [← e_1]; exact rfl
  have z1 : hI u1 B 4 = hI u B 4 := by rw [← e_1]; exact rfl
  refine z_kq kB ?_
  refine z_dq g1_B2 ?_
  refine z_kq kB ?_
  refine z_dq g1_B2 ?_
  refine z_iq k5 (by omega) (by omega) ?_
  refine z_dq g1_B51 ?_
  refine z_iq k5 (by omega) (by omega) ?_
  refine z_kq kp1 ?_
  generalize e_2 : sR u1 (B + 5) (3 + -1) (some p1) = u2
  have g2_B0 : hR u2 B 0 = some a0 := by rw [← e_2, hR_sR, if_neg (by omega)]; exact g1_B0
  have g2_B1 : hR u2 B 1 = some a1 := by rw [← e_2, hR_sR, if_neg (by omega)]; exact g1_B1
  have g2_B2 : hR u2 B 2 = some (B + 5) := by rw [← e_2, hR_sR, if_neg (by omega)]; exact g1_B2
  have g2_B5 : hR u2 B 5 = some (B + 6) := by rw [← e_2, hR_sR, if_neg (by omega)]; exact g1_B5
  have g2_B6 : hR u2 B 6 = some (B + 7) := by rw [← e_2, hR_sR, if_neg (by omega)]; exact g1_B6
  have g2_B50 : hR u2 (B + 5) 0 = some p0 := by rw [← e_2, hR_sR, if_neg (by omega)]; exact g1_B50
  have g2_B51 : hR u2 (B + 5) 1 = some p1 := by rw [← e_2, hR_sR, if_neg (by omega)]; exact g1_B51
  have g2_B52 : hR u2 (B + 5) 2 = some p1 := by rw [← e_2, hR_sR, if_pos ⟨rfl, rfl⟩]
  have g2_B53 : hR u2 (B + 5) 3 = some p2 := by rw [← e_2, hR_sR, if_neg (by omega)]; exact g1_B53
  have x2 : nx u2 = nx u := by rw [← e_2]; exact x1
  have F2 : fA (fun a => a = B ∨ a = B + 5) u u2 := by rw [← e_2]; exact fA_tr F1 (fA_sR _ _ _ (by omega))
  have y2 : hI u2 B 3 = hI u B 3 := by rw [← e_2]; exact y1
  have z2 : hI u2 B 4 = hI u B 4 := by rw [← e_2]; exact z1
  refine z_kq kB ?_
  refine z_dq g2_B2 ?_
  refine z_kq kB ?_
  refine z_dq g2_B2 ?_
  refine z_iq k5 (by omega) (by omega) ?_
  refine z_dq g2_B50 ?_
  refine z_iq k5 (by omega) (by omega) ?_
  refine z_kq kp0 ?_
  generalize e_3 : sR u2 (B + 5) (3 + -1 + -1) (some p0) = u3
  have g3_B0 : hR u3 B 0 = some a0 := by rw [← e_3, hR_sR, if_neg (by omega)]; exact g2_B0
  have g3_B1 : hR u3 B 1 = some a1 := by rw [← e_3, hR_sR, if_neg (by omega)]; exact g2_B1
  have g3_B2 : hR u3 B 2 = some (B + 5) := by rw [← e_3, hR_sR, if_neg (by omega)]; exact g2_B2
  have g3_B5 : hR u3 B 5 = some (B + 6) := by rw [← e_3, hR_sR, if_neg (by omega)]; exact g2_B5
  have g3_B6 : hR u3 B 6 = some (B + 7) := by rw [← e_3, hR_sR, if_neg (by omega)]; exact g2_B6
  have g3_B50 : hR u3 (B + 5) 0 = some p0 := by rw [← e_3, hR_sR, if_neg (by omega)]; exact g2_B50
  have g3_B51 : hR u3 (B + 5) 1 = some p0 := by rw [← e_3, hR_sR, if_pos ⟨rfl, rfl⟩]
  have g3_B52 : hR u3 (B + 5) 2 = some p1 := by rw [← e_3, hR_sR, if_neg (by omega)]; exact g2_B52
  have g3_B53 : hR u3 (B + 5) 3 = some p2 := by rw [← e_3, hR_sR, if_neg (by omega)]; exact g2_B53
  have x3 : nx u3 = nx u := by rw [← e_3]; exact x2
  have F3 : fA (fun a => a = B ∨ a = B + 5) u u3 := by rw [← e_3]; exact fA_tr F2 (fA_sR _ _ _ (by omega))
  have y3 : hI u3 B 3 = hI u B 3 := by rw [← e_3]; exact y2
  have z3 : hI u3 B 4 = hI u B 4 := by rw [← e_3]; exact z2
  refine z_kq kB ?_
  refine z_dq g3_B2 ?_
  refine z_kq kB ?_
  refine z_dq g3_B0 ?_
  refine z_iq k5 (by omega) (by omega) ?_
  refine z_kq ka ?_
  generalize e_4 : sR u3 (B + 5) 0 (some a0) = u4
  have g4_B0 : hR u4 B 0 = some a0 := by rw [← e_4, hR_sR, if_neg (by omega)]; exact g3_B0
  have g4_B1 : hR u4 B 1 = some a1 := by rw [← e_4, hR_sR, if_neg (by omega)]; exact g3_B1
  have g4_B2 : hR u4 B 2 = some (B + 5) := by rw [← e_4, hR_sR, if_neg (by omega)]; exact g3_B2
  have g4_B5 : hR u4 B 5 = some (B + 6) := by rw [← e_4, hR_sR, if_neg (by omega)]; exact g3_B5
  have g4_B6 : hR u4 B 6 = some (B + 7) := by rw [← e_4, hR_sR, if_neg (by omega)]; exact g3_B6
  have g4_B50 : hR u4 (B + 5) 0 = some a0 := by rw [← e_4, hR_sR, if_pos ⟨rfl, rfl⟩]
  have g4_B51 : hR u4 (B + 5) 1 = some p0 := by rw [← e_4, hR_sR, if_neg (by omega)]; exact g3_B51
  have g4_B52 : hR u4 (B + 5) 2 = some p1 := by rw [← e_4, hR_sR, if_neg (by omega)]; exact g3_B52
  have g4_B53 : hR u4 (B + 5) 3 = some p2 := by rw [← e_4, hR_sR, if_neg (by omega)]; exact g3_B53
  have x4 : nx u4 = nx u := by rw [← e_4]; exact x3
  have F4 : fA (fun a => a = B ∨ a = B + 5) u u4 := by rw [← e_4]; exact fA_tr F3 (fA_sR _ _ _ (by omega))
  have y4 : hI u4 B 3 = hI u B 3 := by rw [← e_4]; exact y3
  have z4 : hI u4 B 4 = hI u B 4 := by rw [← e_4]; exact z3
  refine z_kq kB ?_
  refine z_dq g4_B1 ?_
  refine z_kq kB ?_
  generalize e_5 : sR u4 B 0 (some a1) = u5
  have g5_B0 : hR u5 B 0 = some a1 := by rw [← e_5, hR_sR, if_pos ⟨rfl, rfl⟩]
  have g5_B1 : hR u5 B 1 = some a1 := by rw [← e_5, hR_sR, if_neg (by omega)]; exact g4_B1
  have g5_B2 : hR u5 B 2 = some (B + 5) := by rw [← e_5, hR_sR, if_neg (by omega)]; exact g4_B2
  have g5_B5 : hR u5 B 5 = some (B + 6) := by rw [← e_5, hR_sR, if_neg (by omega)]; exact g4_B5
  have g5_B6 : hR u5 B 6 = some (B + 7) := by rw [← e_5, hR_sR, if_neg (by omega)]; exact g4_B6
  have g5_B50 : hR u5 (B + 5) 0 = some a0 := by rw [← e_5, hR_sR, if_neg (by omega)]; exact g4_B50
  have g5_B51 : hR u5 (B + 5) 1 = some p0 := by rw [← e_5, hR_sR, if_neg (by omega)]; exact g4_B51
  have g5_B52 : hR u5 (B + 5) 2 = some p1 := by rw [← e_5, hR_sR, if_neg (by omega)]; exact g4_B52
  have g5_B53 : hR u5 (B + 5) 3 = some p2 := by rw [← e_5, hR_sR, if_neg (by omega)]; exact g4_B53
  have x5 : nx u5 = nx u := by rw [← e_5]; exact x4
  have F5 : fA (fun a => a = B ∨ a = B + 5) u u5 := by rw [← e_5]; exact fA_tr F4 (fA_sR _ _ _ (by omega))
  have y5 : hI u5 B 3 = hI u B 3 := by rw [← e_5]; exact y4
  have z5 : hI u5 B 4 = hI u B 4 := by rw [← e_5]; exact z4
  refine z_kq kB ?_
  generalize e_6 : sR u5 B 1 (some p3) = u6
  have g6_B0 : hR u6 B 0 = some a1 := by rw [← e_6, hR_sR, if_neg (by omega)]; exact g5_B0
  have g6_B1 : hR u6 B 1 = some p3 := by rw [← e_6, hR_sR, if_pos ⟨rfl, rfl⟩]
  have g6_B2 : hR u6 B 2 = some (B + 5) := by rw [← e_6, hR_sR, if_neg (by omega)]; exact g5_B2
  have g6_B5 : hR u6 B 5 = some (B + 6) := by rw [← e_6, hR_sR, if_neg (by omega)]; exact g5_B5
  have g6_B6 : hR u6 B 6 = some (B + 7) := by rw [← e_6, hR_sR, if_neg (by omega)]; exact g5_B6
  have g6_B50 : hR u6 (B + 5) 0 = some a0 := by rw [← e_6, hR_sR, if_neg (by omega)]; exact g5_B50
  have g6_B51 : hR u6 (B + 5) 1 = some p0 := by rw [← e_6, hR_sR, if_neg (by omega)]; exact g5_B51
  have g6_B52 : hR u6 (B + 5) 2 = some p1 := by rw [← e_6, hR_sR, if_neg (by omega)]; exact g5_B52
  have g6_B53 : hR u6 (B + 5) 3 = some p2 := by rw [← e_6, hR_sR, if_neg (by omega)]; exact g5_B53
  have x6 : nx u6 = nx u := by rw [← e_6]; exact x5
  have F6 : fA (fun a => a = B ∨ a = B + 5) u u6 := by rw [← e_6]; exact fA_tr F5 (fA_sR _ _ _ (by omega))
  have y6 : hI u6 B 3 = hI u B 3 := by rw [← e_6]; exact y5
  have z6 : hI u6 B 4 = hI u B 4 := by rw [← e_6]; exact z5
  refine z_kq kB ?_
  refine z_gq (by omega) ?_
  refine k_min ?_
  rw [y6, h3]
  refine z_kq kB ?_
  have hf2 : fA (fun a => a = B ∨ a = B + 5) u (sI u6 B 3 (min ((K.2.1.length : Int) + 1) 4)) := fA_tr F6 (fA_sI _ _ _ (by omega))
  refine h (by omega) _ hf2 x6 (cW_p hB hf2 ⟨⟨g6_B0, g6_B1, g6_B2, g6_B5, g6_B6, s0, s1⟩, g6_B50, g6_B51, g6_B52, g6_B53⟩ ⟨c1, c5, c0, c2, c3, c4, c6, c7⟩ ⟨⟨t1, t5, t0, t2, t3, t4⟩, by omega⟩ hD ?_ ?_ ?_)
  · exact cP_take 4 (K.1 :: K.2.1) [a0, p0, p1, p2, p3] ⟨h1, h2⟩
  · rw [hI_sI, if_pos ⟨rfl, rfl⟩, hst_len]
    omega
  · rw [hI_sI, if_neg (by omega), z6]
    exact h4
set_option maxHeartbeats 4000000 in
theorem k_goBack {d : Nat} {B a0 a1 p0 p1 p2 p3 : Nat} {K : Tk × List Tk × Int} {u : aS} {Q : aQ} (hB : isB B) (hW : cW u B a0 a1 p0 p1 p2 p3 K) (hf : K.2.1 = [] → Q (some (vI 0)) u) (h : ∀ t l, K.2.1 = t :: l → ∀ u', fA (fun a => a = B ∨ a = B + 5) u u' → nx u' = nx u → cW u' B p0 a1 p1 p2 p3 a0 (t, l, K.2.2) → Q (some (vI 1)) u') : wpm (d + 1) M_X6_goBack [vR B] u Q := by
  obtain ⟨hb, h1, h2, h3, h4⟩ := hW
  obtain ⟨⟨r0, r1, r2, r5, r6, s0, s1⟩, ⟨q0, q1, q2, q3⟩, ⟨c0, c1, c2, c3, c4, c5, c6, c7⟩, ⟨⟨t0, t1, t2, t3, t4, t5⟩, n1, n2, n3, n4, n5⟩⟩ := hb
  have kB := hB.k0
  have k5 := hB.k5
  have ka := (hB.tp t0).1
  have kp0 := (hB.tp t2).1
  have kp1 := (hB.tp t3).1
  have kp2 := (hB.tp t4).1
  have kp3 := (hB.tp t5).1
  have hl0 := hB.le
  have hlen := cP_len _ _ h2
  simp at hlen
  refine e_X6_goBack rfl (run [] 100 ?_)
  repeat first
    | refine z_gq (by first | omega | (simp [hI_sI, hI_sF, hI_sR, hI_nw, hI_ff, hI_fl, hI_cp]; try omega)) ?_
    | refine z_iq rfl (by first | omega | (simp [hI_sI, hI_sF, hI_sR, hI_nw, hI_ff, hI_fl, hI_cp]; try omega)) (by first | omega | (simp [hI_sI, hI_sF, hI_sR, hI_nw, hI_ff, hI_fl, hI_cp]; try omega)) ?_
    | refine z_kq (kB) ?_
  cases hh : K.2.1 with
  | nil =>
    rw [hh] at h3
    simp at h3
    refine z_bq (fun hz => by omega) (fun hz => hf hh)
  | cons t l =>
    rw [hh] at h3 h2 hlen
    simp at h3 hlen
    refine z_bq (fun hz => ?_) (fun hz => by omega)
    refine z_kq kB ?_
    refine z_dq r0 ?_
    refine z_kq kB ?_
    refine z_dq r2 ?_
    refine z_iq k5 (by omega) (by omega) ?_
    refine z_dq q0 ?_
    refine z_kq kB ?_
    generalize e_1 : sR u B 0 (some p0) = u1
    have g1_B0 : hR u1 B 0 = some p0 := by rw [← e_1, hR_sR, if_pos ⟨rfl, rfl⟩]
    have g1_B1 : hR u1 B 1 = some a1 := by rw [← e_1, hR_sR, if_neg (by omega)]; exact r1
    have g1_B2 : hR u1 B 2 = some (B + 5) := by rw [← e_1, hR_sR, if_neg (by omega)]; exact r2
    have g1_B5 : hR u1 B 5 = some (B + 6) := by rw [← e_1, hR_sR, if_neg (by omega)]; exact r5
    have g1_B6 : hR u1 B 6 = some (B + 7) := by rw [← e_1, hR_sR, if_neg (by omega)]; exact r6
    have g1_B50 : hR u1 (B + 5) 0 = some p0 := by rw [← e_1, hR_sR, if_neg (by omega)]; exact q0
    have g1_B51 : hR u1 (B + 5) 1 = some p1 := by rw [← e_1, hR_sR, if_neg (by omega)]; exact q1
    have g1_B52 : hR u1 (B + 5) 2 = some p2 := by rw [← e_1, hR_sR, if_neg (by omega)]; exact q2
    have g1_B53 : hR u1 (B + 5) 3 = some p3 := by rw [← e_1, hR_sR, if_neg (by omega)]; exact q3
    have x1 : nx u1 = nx u := by rw [← e_1]; exact rfl
    have F1 : fA (fun a => a = B ∨ a = B + 5) u u1 := by rw [← e_1]; exact fA_sR _ _ _ (by omega)
    have y1 : hI u1 B 3 = hI u B 3 := by rw [← e_1]; exact rfl
    have z1 : hI u1 B 4 = hI u B 4 := by rw [← e_1]; exact rfl
    refine z_kq kB ?_
    refine z_dq g1_B2 ?_
    refine z_kq kB ?_
    refine z_dq g1_B2 ?_
    refine z_iq k5 (by omega) (by omega) ?_
    refine z_dq g1_B51 ?_
    refine z_iq k5 (by omega) (by omega) ?_
    refine z_kq kp1 ?_
    generalize e_2 : sR u1 (B + 5) 0 (some p1) = u2
    have g2_B0 : hR u2 B 0 = some p0 := by rw [← e_2, hR_sR, if_neg (by omega)]; exact g1_B0
    have g2_B1 : hR u2 B 1 = some a1 := by rw [← e_2, hR_sR, if_neg (by omega)]; exact g1_B1
    have g2_B2 : hR u2 B 2 = some (B + 5) := by rw [← e_2, hR_sR, if_neg (by omega)]; exact g1_B2
    have g2_B5 : hR u2 B 5 = some (B + 6) := by rw [← e_2, hR_sR, if_neg (by omega)]; exact g1_B5
    have g2_B6 : hR u2 B 6 = some (B + 7) := by rw [← e_2, hR_sR, if_neg (by omega)]; exact g1_B6
    have g2_B50 : hR u2 (B + 5) 0 = some p1 := by rw [← e_2, hR_sR, if_pos ⟨rfl, rfl⟩]
    have g2_B51 : hR u2 (B + 5) 1 = some p1 := by rw [← e_2, hR_sR, if_neg (by omega)]; exact g1_B51
    have g2_B52 : hR u2 (B + 5) 2 = some p2 := by rw [← e_2, hR_sR, if_neg (by omega)]; exact g1_B52
    have g2_B53 : hR u2 (B + 5) 3 = some p3 := by rw [← e_2, hR_sR, if_neg (by omega)]; exact g1_B53
    have x2 : nx u2 = nx u := by rw [← e_2]; exact x1
    have F2 : fA (fun a => a = B ∨ a = B + 5) u u2 := by rw [← e_2]; exact fA_tr F1 (fA_sR _ _ _ (by omega))
    have y2 : hI u2 B 3 = hI u B 3 := by rw [← e_2]; exact y1
    have z2 : hI u2 B 4 = hI u B 4 := by rw [← e_2]; exact z1
    refine z_kq kB ?_
    refine z_dq g2_B2 ?_
    refine z_kq kB ?_
    refine z_dq g2_B2 ?_
    refine z_iq k5 (by omega) (by omega) ?_
    refine z_dq g2_B52 ?_
    refine z_iq k5 (by omega) (by omega) ?_
    refine z_kq kp2 ?_
    generalize e_3 : sR u2 (B + 5) (0 + 1) (some p2) = u3
    have g3_B0 : hR u3 B 0 = some p0 := by rw [← e_3, hR_sR, if_neg (by omega)]; exact g2_B0
    have g3_B1 : hR u3 B 1 = some a1 := by rw [← e_3, hR_sR, if_neg (by omega)]; exact g2_B1
    have g3_B2 : hR u3 B 2 = some (B + 5) := by rw [← e_3, hR_sR, if_neg (by omega)]; exact g2_B2
    have g3_B5 : hR u3 B 5 = some (B + 6) := by rw [← e_3, hR_sR, if_neg (by omega)]; exact g2_B5
    have g3_B6 : hR u3 B 6 = some (B + 7) := by rw [← e_3, hR_sR, if_neg (by omega)]; exact g2_B6
    have g3_B50 : hR u3 (B + 5) 0 = some p1 := by rw [← e_3, hR_sR, if_neg (by omega)]; exact g2_B50
    have g3_B51 : hR u3 (B + 5) 1 = some p2 := by rw [← e_3, hR_sR, if_pos ⟨rfl, rfl⟩]
    have g3_B52 : hR u3 (B + 5) 2 = some p2 := by rw [← e_3, hR_sR, if_neg (by omega)]; exact g2_B52
    have g3_B53 : hR u3 (B + 5) 3 = some p3 := by rw [← e_3, hR_sR, if_neg (by omega)]; exact g2_B53
    have x3 : nx u3 = nx u := by rw [← e_3]; exact x2
    have F3 : fA (fun a => a = B ∨ a = B + 5) u u3 := by rw [← e_3]; exact fA_tr F2 (fA_sR _ _ _ (by omega))
    have y3 : hI u3 B 3 = hI u B 3 := by rw [← e_3]; exact y2
    have z3 : hI u3 B 4 = hI u B 4 := by rw [← e_3]; exact z2
    refine z_kq kB ?_
    refine z_dq g3_B2 ?_
    refine z_kq kB ?_
    refine z_dq g3_B2 ?_
    refine z_iq k5 (by omega) (by omega) ?_
    refine z_dq g3_B53 ?_
    refine z_iq k5 (by omega) (by omega) ?_
    refine z_kq kp3 ?_
    generalize e_4 : sR u3 (B + 5) (0 + 1 + 1) (some p3) = u4
    have g4_B0 : hR u4 B 0 = some p0 := by rw [← e_4, hR_sR, if_neg (by omega)]; exact g3_B0
    have g4_B1 : hR u4 B 1 = some a1 := by rw [← e_4, hR_sR, if_neg (by omega)]; exact g3_B1
    have g4_B2 : hR u4 B 2 = some (B + 5) := by rw [← e_4, hR_sR, if_neg (by omega)]; exact g3_B2
    have g4_B5 : hR u4 B 5 = some (B + 6) := by rw [← e_4, hR_sR, if_neg (by omega)]; exact g3_B5
    have g4_B6 : hR u4 B 6 = some (B + 7) := by rw [← e_4, hR_sR, if_neg (by omega)]; exact g3_B6
    have g4_B50 : hR u4 (B + 5) 0 = some p1 := by rw [← e_4, hR_sR, if_neg (by omega)]; exact g3_B50
    have g4_B51 : hR u4 (B + 5) 1 = some p2 := by rw [← e_4, hR_sR, if_neg (by omega)]; exact g3_B51
    have g4_B52 : hR u4 (B + 5) 2 = some p3 := by rw [← e_4, hR_sR, if_pos ⟨rfl, rfl⟩]
    have g4_B53 : hR u4 (B + 5) 3 = some p3 := by rw [← e_4, hR_sR, if_neg (by omega)]; exact g3_B53
    have x4 : nx u4 = nx u := by rw [← e_4]; exact x3
    have F4 : fA (fun a => a = B ∨ a = B + 5) u u4 := by rw [← e_4]; exact fA_tr F3 (fA_sR _ _ _ (by omega))
    have y4 : hI u4 B 3 = hI u B 3 := by rw [← e_4]; exact y3
    have z4 : hI u4 B 4 = hI u B 4 := by rw [← e_4]; exact z3
    refine z_kq kB ?_
    refine z_dq g4_B2 ?_
    refine z_iq k5 (by omega) (by omega) ?_
    refine z_kq ka ?_
    generalize e_5 : sR u4 (B + 5) 3 (some a0) = u5
    have g5_B0 : hR u5 B 0 = some p0 := by rw [← e_5, hR_sR, if_neg (by omega)]; exact g4_B0
    have g5_B1 : hR u5 B 1 = some a1 := by rw [← e_5, hR_sR, if_neg (by omega)]; exact g4_B1
    have g5_B2 : hR u5 B 2 = some (B + 5) := by rw [← e_5, hR_sR, if_neg (by omega)]; exact g4_B2
    have g5_B5 : hR u5 B 5 = some (B + 6) := by rw [← e_5, hR_sR, if_neg (by omega)]; exact g4_B5
    have g5_B6 : hR u5 B 6 = some (B + 7) := by rw [← e_5, hR_sR, if_neg (by omega)]; exact g4_B6
    have g5_B50 : hR u5 (B + 5) 0 = some p1 := by rw [← e_5, hR_sR, if_neg (by omega)]; exact g4_B50
    have g5_B51 : hR u5 (B + 5) 1 = some p2 := by rw [← e_5, hR_sR, if_neg (by omega)]; exact g4_B51
    have g5_B52 : hR u5 (B + 5) 2 = some p3 := by rw [← e_5, hR_sR, if_neg (by omega)]; exact g4_B52
    have g5_B53 : hR u5 (B + 5) 3 = some a0 := by rw [← e_5, hR_sR, if_pos ⟨rfl, rfl⟩]
    have x5 : nx u5 = nx u := by rw [← e_5]; exact x4
    have F5 : fA (fun a => a = B ∨ a = B + 5) u u5 := by rw [← e_5]; exact fA_tr F4 (fA_sR _ _ _ (by omega))
    have y5 : hI u5 B 3 = hI u B 3 := by rw [← e_5]; exact y4
    have z5 : hI u5 B 4 = hI u B 4 := by rw [← e_5]; exact z4
    refine z_kq kB ?_
    have e3 : hI u5 B 3 = l.length + 1 := y5.trans h3
    refine z_gq (by omega) ?_
    refine z_kq kB ?_
    rw [e3]
    have hf2 : fA (fun a => a = B ∨ a = B + 5) u (sI u5 B 3 ((l.length : Int) + 1 - 1)) := fA_tr F5 (fA_sI _ _ _ (by omega))
    refine h t l hh _ hf2 x5 (cW_p hB hf2 ⟨⟨g5_B0, g5_B1, g5_B2, g5_B5, g5_B6, s0, s1⟩, g5_B50, g5_B51, g5_B52, g5_B53⟩ ⟨c2, c1, c3, c4, c5, c0, c6, c7⟩ ⟨⟨t2, t1, t3, t4, t5, t0⟩, by omega⟩ h2.1 ?_ ?_ ?_)
    · exact cP_app l [p1, p2, p3] [a0] h2.2
    · rw [hI_sI, if_pos ⟨rfl, rfl⟩]
      show (l.length : Int) + 1 - 1 = l.length
      omega
    · rw [hI_sI, if_neg (by omega), z5]
      exact h4
