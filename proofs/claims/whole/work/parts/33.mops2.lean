/-! tracks: the model's calls, the rest -/
theorem vP_sp {l : List Sp} (h : vG l) {i : Int} (h0 : 0 ≤ i) (h1 : i < l.length) : vP (spA l i) := h.2.2 _ (spA_mem h0 h1).1
theorem c_move {d : Nat} {k i t : Int} {u : aS} {Q : aQ} {A : Al} (hA : mA u A) (hV : vTr A.2.2.2.1) (h : ∀ u', mA u' (A.1, A.2.1, A.2.2.1, (oMove A.2.2.2.1 k i t).2, A.2.2.2.2) → fM u u' → Q (some (vI (oMove A.2.2.2.1 k i t).1)) u') : wpm (d + 4) M_X8_move [vR 139, vI k, vI i, vI t] u Q := by
  have hS := hA.1
  unfold oMove at h
  refine e_X8_move rfl (run [(120, [])] 150 ?_)
  have hm : 0 ≤ k → k ≤ 3 → hI u 142 (86 * k + 84) = (A.2.2.2.1 k).1.1.length ∧ (A.2.2.2.1 k).1.1.length ≤ 12 := fun k0 k1 => ⟨(hA.2.2.2.2.1 k k0 k1).1.1, hV.len k0 k1⟩
  refine c_isSpan hS (fun k0 k1 => by have := hm k0 k1; omega) (fun k0 k1 i0 i1 => ?_) (fun hn => ?_)
  · obtain ⟨e1, e2⟩ := hm k0 k1
    rw [if_neg (by omega)] at h
    obtain ⟨c1, c2, c3, c4⟩ := hA.2.2.2.2.1 k k0 k1
    have vk := hV.now k0 k1
    obtain ⟨s0, s1, s2, s3, s4, s5, s6⟩ := mTk_sp c1 i0 (by omega)
    have vp := vP_sp vk.1 i0 (show i < (A.2.2.2.1 k).1.1.length by omega)
    have sm := spA_mem (l := (A.2.2.2.1 k).1.1) i0 (by omega)
    have vp' := vp
    unfold vP at vp'
    have hi : 0 ≤ i ∧ i ≤ 11 := by omega
    refine c_of hS ⟨k0, k1⟩ hi (by omega) ?_
    repeat first
      | refine z_gq (by first | omega | (simp [hI_sI, hI_sF, hI_sR, hI_nw, hI_ff, hI_fl, hI_cp]; try omega)) ?_
      | refine z_iq rfl (by first | omega | (simp [hI_sI, hI_sF, hI_sR, hI_nw, hI_ff, hI_fl, hI_cp]; try omega)) (by first | omega | (simp [hI_sI, hI_sF, hI_sR, hI_nw, hI_ff, hI_fl, hI_cp]; try omega)) ?_
      | refine z_dq (mS.now hS) ?_
      | refine z_dq (mS.floats hS) ?_
      | refine z_dq (mS.sizes hS) ?_
      | refine z_dq (mS.shut hS) ?_
      | refine z_dq (mS.past hS) ?_
      | refine z_dq (mS.deeds hS) ?_
      | refine z_dq (mS.images hS) ?_
      | refine z_dq (mS.imageShut hS) ?_
      | refine z_dq (mS.kept hS) ?_
      | refine z_dq (mS.owner hS) ?_
      | refine z_dq (mS.old hS) ?_
      | refine z_dq (mS.letters hS) ?_
      | refine z_dq (mS.toldSizes hS) ?_
      | refine z_dq (mS.sort hS) ?_
      | refine z_dq (mS.room hS) ?_
      | refine z_dq (mS.things hS) ?_
    refine c_in (fun t0 t1 => ?_) (fun t0 => ?_)
    · rw [if_neg (by omega)] at h
      refine c_tells hS ⟨k0, k1⟩ c1 vk.1 (fun u1 m1 m2 m3 m4 => ?_)
      have hA1 := mA_w m1 (fun a => by omega) hA
      have hS1 := hA1.1
      obtain ⟨g1, g2, g3, g4⟩ := hA1.2.2.2.2.1 k k0 k1
      obtain ⟨r0, r1, r2, r3, r4, r5, r6⟩ := mTk_sp g1 i0 (by omega)
      have r0' : hI u1 142 (86 * k + 7 * i + 0) = q0 (spA (A.2.2.2.1 k).1.1 i) := by
        rw [Int.add_zero]
        exact r0
      refine c_of hS1 ⟨k0, k1⟩ hi (by omega) ?_
      refine c_of hS1 ⟨k0, k1⟩ hi (by omega) ?_
      refine c_of hS1 ⟨k0, k1⟩ hi (by omega) ?_
      repeat first
        | refine z_gq (by first | omega | (simp [hI_sI, hI_sF, hI_sR, hI_nw, hI_ff, hI_fl, hI_cp]; try omega)) ?_
        | refine z_iq rfl (by first | omega | (simp [hI_sI, hI_sF, hI_sR, hI_nw, hI_ff, hI_fl, hI_cp]; try omega)) (by first | omega | (simp [hI_sI, hI_sF, hI_sR, hI_nw, hI_ff, hI_fl, hI_cp]; try omega)) ?_
        | refine z_dq (mS.now hS) ?_
        | refine z_dq (mS.floats hS) ?_
        | refine z_dq (mS.sizes hS) ?_
        | refine z_dq (mS.shut hS) ?_
        | refine z_dq (mS.past hS) ?_
        | refine z_dq (mS.deeds hS) ?_
        | refine z_dq (mS.images hS) ?_
        | refine z_dq (mS.imageShut hS) ?_
        | refine z_dq (mS.kept hS) ?_
        | refine z_dq (mS.owner hS) ?_
        | refine z_dq (mS.old hS) ?_
        | refine z_dq (mS.letters hS) ?_
        | refine z_dq (mS.toldSizes hS) ?_
        | refine z_dq (mS.sort hS) ?_
        | refine z_dq (mS.room hS) ?_
        | refine z_dq (mS.things hS) ?_
      refine c_gives hS1 (by omega) (by omega) (by omega) ?_
      refine c_of hS1 ⟨k0, k1⟩ hi (by omega) ?_
      refine c_of hS1 ⟨k0, k1⟩ hi (by omega) ?_
      refine c_of hS1 ⟨k0, k1⟩ hi (by omega) ?_
      have key : ∀ a0 a1 a2 a3 a4 a5 a6 b c : Int, a0 = q0 (spA (A.2.2.2.1 k).1.1 i) → a1 = q1 (spA (A.2.2.2.1 k).1.1 i) → a2 = q2 (spA (A.2.2.2.1 k).1.1 i) → a3 = t → a4 = q4 (spA (A.2.2.2.1 k).1.1 i) → a5 = q5 (spA (A.2.2.2.1 k).1.1 i) → a6 = q6 (spA (A.2.2.2.1 k).1.1 i) → b = q3 (spA (A.2.2.2.1 k).1.1 i) → c = qe (spA (A.2.2.2.1 k).1.1 i) → wp (wpm (d + 3)) cd_X8_move Q 120 [vR 139, vI k, vI i, vI t] [] (sI (sI (sI (fl (sI (sI (sI (sI (fl u1 149 b c (-1)) 150 84 a0) 150 85 a1) 150 86 a2) 150 87 a3) 149 a3 (a3 + a2) 12) 150 88 a4) 150 89 a5) 150 90 a6) 0 0 := by
        intro a0 a1 a2 a3 a4 a5 a6 b c E0 E1 E2 E3 E4 E5 E6 Eb Ec
        have hf3 : fA (fun a => a = 149 ∨ a = 150) u1 (sI (sI (sI (fl (sI (sI (sI (sI (fl u1 149 b c (-1)) 150 84 a0) 150 85 a1) 150 86 a2) 150 87 a3) 149 a3 (a3 + a2) 12) 150 88 a4) 150 89 a5) 150 90 a6) := fA_tr (fA_fl _ _ _ _ (by omega)) (fA_tr (fA_sI _ _ _ (by omega)) (fA_tr (fA_sI _ _ _ (by omega)) (fA_tr (fA_sI _ _ _ (by omega)) (fA_tr (fA_sI _ _ _ (by omega)) (fA_tr (fA_fl _ _ _ _ (by omega)) (fA_tr (fA_sI _ _ _ (by omega)) (fA_tr (fA_sI _ _ _ (by omega)) (fA_sI _ _ _ (by omega)))))))))
        have hP : Rp (hI (sI (sI (sI (fl (sI (sI (sI (sI (fl u1 149 b c (-1)) 150 84 a0) 150 85 a1) 150 86 a2) 150 87 a3) 149 a3 (a3 + a2) 12) 150 88 a4) 150 89 a5) 150 90 a6) 149) (-1) (layR (A.2.2.2.1 k).1.1 (mvd (spA (A.2.2.2.1 k).1.1 i) t) i) := by
          refine lay_Rp vk.1.1 t0 vp'.2.1.2.1 (by show t + q2 (spA (A.2.2.2.1 k).1.1 i) ≤ 128; omega) vk.1.2.1 (fun x x0 x1 => ?_)
          show (if 149 = 149 ∧ a3 ≤ x ∧ x < a3 + a2 then 12 else if 149 = 149 ∧ b ≤ x ∧ x < c then -1 else hI u1 149 x) = if t ≤ x ∧ x < t + q2 (spA (A.2.2.2.1 k).1.1 i) then 12 else _
          rw [m3 x x0 x1, E3, E2]
          have oi : oR (en 0 (A.2.2.2.1 k).1.1) x = i ↔ q3 (spA (A.2.2.2.1 k).1.1 i) ≤ x ∧ x < qe (spA (A.2.2.2.1 k).1.1 i) := own_iff vk.1.1 sm.2 x
          by_cases hx : t ≤ x ∧ x < t + q2 (spA (A.2.2.2.1 k).1.1 i)
          · rw [if_pos ⟨rfl, hx⟩, if_pos hx]
          · rw [if_neg (fun z => hx z.2), if_neg hx, Eb, Ec]
            by_cases hy : oR (en 0 (A.2.2.2.1 k).1.1) x = i
            · rw [if_pos ⟨rfl, oi.mp hy⟩, if_pos hy]
            · rw [if_neg (fun z => hy (oi.mpr z.2)), if_neg hy]
        have hM : ∀ e, e ∈ layR (A.2.2.2.1 k).1.1 (mvd (spA (A.2.2.2.1 k).1.1 i) t) i → Mq (hI (sI (sI (sI (fl (sI (sI (sI (sI (fl u1 149 b c (-1)) 150 84 a0) 150 85 a1) 150 86 a2) 150 87 a3) 149 a3 (a3 + a2) 12) 150 88 a4) 150 89 a5) 150 90 a6) 150) e ∧ 0 ≤ e.1 ∧ e.1 ≤ 12 := by
          intro e he
          rcases ins_mem.mp he with z | z
          · subst z
            refine ⟨Mq_same ?_ ?_, by show 0 ≤ (12 : Int); omega, by show (12 : Int) ≤ 12; omega⟩
            · simp [Fw, hI_sI, hI_fl]
              exact ⟨E0, E1, E2, E3, E4, E5, E6⟩
            · show (0 ≤ q0 (spA (A.2.2.2.1 k).1.1 i) ∧ _) ∧ _ ∧ (0 ≤ t ∧ t + q2 (spA (A.2.2.2.1 k).1.1 i) ≤ 128) ∧ _
              exact ⟨vp'.1, vp'.2.1, ⟨t0, by omega⟩, vp'.2.2.2⟩
          · refine ⟨Mq_rs vk.1.2.2 (Fw_old c1 vk.1.2.1 (fun j j0 j1 => ?_)) e z, ?_⟩
            · rw [← m4 j j0 j1]
              simp [hI_sI, hI_fl]
              omega
            · obtain ⟨c, f1, f2, f3, f4⟩ := rs_mem z
              have := en_mem f1
              have := vk.1.2.1
              omega
        refine run [] 60 ?_
        refine c_runs hS1 ?_
        rw [Rp_n hP]
        unfold lyT at h
        refine z_bq (fun hz => ?_) (fun hz => ?_)
        · rw [if_pos (by omega)] at h
          exact h _ (mA_w hf3 (fun a => by omega) hA1) (fM_of (fA_tr m1 hf3) (fun a => by omega) m2)
        · rw [if_neg (by omega)] at h
          refine c_notes (mA_w hf3 (fun a => by omega) hA1) hV ⟨k0, k1⟩ (fun u4 n1 n2 n3 => ?_)
          have o1 : hI u4 149 = _ := funext fun j => (n2.1 149 (by omega) j).1
          have o2 : hI u4 150 = _ := funext fun j => (n2.1 150 (by omega) j).1
          rw [← o1] at hP
          rw [← o2] at hM
          refine c_lays n1.1 ⟨k0, k1⟩ hP (by omega) hM (fun u5 p1 p2 p3 p4 => ?_)
          obtain ⟨hA5, e5⟩ := mA_lay2 (A := A) n1 hV ⟨k0, k1⟩ p1 p3 p4
          refine c_many hA5.1 ⟨k0, k1⟩ ?_
          refine q_eq (h u5 hA5 (fM_of (p := fun a => 139 ≤ a ∧ a ≤ 155) (fA_tr (fA_wk m1 (fun a => by omega)) (fA_tr (fA_wk hf3 (fun a => by omega)) (fA_tr (fA_wk n2 (fun a => by omega)) (fA_wk p1 (fun a => by omega))))) (fun a z => z) (p2.trans (n3.trans m2)))) (e5.trans ?_)
          simp
      have hS2 : mS (fl u1 149 (hI u1 142 (86 * k + 7 * i + 3)) (hI u1 142 (86 * k + 7 * i + 3) + hI u1 142 (86 * k + 7 * i + 2)) (-1)) := hS1
      refine c_brings (s := _) hS2 t0 ?_ ?_ ?_
      · show 0 ≤ hI u1 142 (86 * k + 7 * i + 2)
        omega
      · show t + hI u1 142 (86 * k + 7 * i + 2) ≤ 128
        omega
      · refine c_of hS1 ⟨k0, k1⟩ hi (by omega) ?_
        refine c_of hS1 ⟨k0, k1⟩ hi (by omega) ?_
        refine c_of hS1 ⟨k0, k1⟩ hi (by omega) ?_
        refine c_fades hS1 ?_
        refine key _ _ _ _ _ _ _ _ _ r0' r1 r2 rfl r4 r5 r6 r3 ?_
        unfold qe
        omega
    · rw [if_pos (by omega)] at h
      exact h u hA (fM_rfl u)
  · rw [if_pos (by intro z; exact hn ⟨z.1, z.2.1, by have := hm z.1.1 z.1.2; omega⟩)] at h
    exact h u hA (fM_rfl u)
theorem Fw_set {u : aS} {a : Nat} {b i : Int} {p : Sp} (h0 : hI u a (b + 7 * i) = q0 p) (h1 : hI u a (b + 7 * i + 1) = q1 p) (h2 : hI u a (b + 7 * i + 2) = q2 p) (h3 : hI u a (b + 7 * i + 3) = q3 p) (h4 : hI u a (b + 7 * i + 4) = q4 p) (h5 : hI u a (b + 7 * i + 5) = q5 p) (h6 : hI u a (b + 7 * i + 6) = q6 p) : Fw (fun q => hI u a (b + q)) i p := by
  unfold Fw
  simp only [← Int.add_assoc]
  exact ⟨h0, h1, h2, h3, h4, h5, h6⟩
/-- one track has been noted, its cells have then changed -/
theorem mA_set2 {u u' : aS} {A : Al} {k i : Int} {p : Sp} (hA : mA u (A.1, A.2.1, A.2.2.1, nwT A.2.2.2.1 k (A.2.2.2.1 k).1, A.2.2.2.2)) (hV : vTr A.2.2.2.1) (hk : 0 ≤ k ∧ k ≤ 3) (hi : 0 ≤ i ∧ i < (A.2.2.2.1 k).1.1.length) (hf : fA (fun a => a = 142) u u') (h : ∀ j, ¬ (86 * k + 7 * i ≤ j ∧ j < 86 * k + 7 * i + 7) → hI u' 142 j = hI u 142 j) (hp : Fw (fun q => hI u' 142 (86 * k + q)) i p) : mA u' (A.1, A.2.1, A.2.2.1, nwT A.2.2.2.1 k (stL (A.2.2.2.1 k).1.1 i p, (A.2.2.2.1 k).1.2), A.2.2.2.2) := by
  obtain ⟨b1, b2, b3, b4⟩ := hA.2.2.2.2.1 k hk.1 hk.2
  have b1' : mTk u 142 (86 * k) (A.2.2.2.1 k).1 := by
    have := b1
    rw [show (A.1, A.2.1, A.2.2.1, nwT A.2.2.2.1 k (A.2.2.2.1 k).1, A.2.2.2.2).2.2.2.1 k = _ from nw_k _ _ _] at this
    exact this
  have vl := hV.len hk.1 hk.2
  have g := mA_lay hA (vTr_nw hV hk.1 hk.2 (hV.now hk.1 hk.2)) hk hf (fun j hj => h j (by omega)) (mTk_set (p := p) b1' vl hi.1 hi.2 (fun q q0 q1 hq => h _ (by omega)) hp)
  rw [← nw_up A.2.2.2.1 k (A.2.2.2.1 k).1]
  exact g
theorem c_fade {d : Nat} {k i a b : Int} {u : aS} {Q : aQ} {A : Al} (hA : mA u A) (hV : vTr A.2.2.2.1) (ha : a ≤ 2147483647) (hb : b ≤ 2147483647) (h : ∀ u', mA u' (A.1, A.2.1, A.2.2.1, (oFade A.2.2.2.1 k i a b).2, A.2.2.2.2) → fM u u' → Q (some (vI (oFade A.2.2.2.1 k i a b).1)) u') : wpm (d + 4) M_X8_fade [vR 139, vI k, vI i, vI a, vI b] u Q := by
  have hS := hA.1
  unfold oFade at h
  refine e_X8_fade rfl (run [] 150 ?_)
  have hm : 0 ≤ k → k ≤ 3 → hI u 142 (86 * k + 84) = (A.2.2.2.1 k).1.1.length ∧ (A.2.2.2.1 k).1.1.length ≤ 12 := fun k0 k1 => ⟨(hA.2.2.2.2.1 k k0 k1).1.1, hV.len k0 k1⟩
  refine c_isSpan hS (fun k0 k1 => by have := hm k0 k1; omega) (fun k0 k1 i0 i1 => ?_) (fun hn => ?_)
  · obtain ⟨e1, e2⟩ := hm k0 k1
    rw [if_neg (by omega)] at h
    obtain ⟨c1, c2, c3, c4⟩ := hA.2.2.2.2.1 k k0 k1
    have vk := hV.now k0 k1
    obtain ⟨s0, s1, s2, s3, s4, s5, s6⟩ := mTk_sp c1 i0 (by omega)
    have hi : 0 ≤ i ∧ i ≤ 11 := by omega
    refine z_bq (fun a0 => ?_) (fun a0 => ?_)
    · rw [if_pos (by omega)] at h
      exact h u hA (fM_rfl u)
    · refine z_bq (fun b0 => ?_) (fun b0 => ?_)
      · rw [if_pos (by omega)] at h
        exact h u hA (fM_rfl u)
      · refine z_lq (by omega) ?_
        refine c_of hS ⟨k0, k1⟩ hi (by omega) ?_
        refine z_bq (fun hc => ?_) (fun hc => ?_)
        · rw [b_cmp_gt] at hc
          rw [if_pos (by omega)] at h
          exact h u hA (fM_rfl u)
        · rw [b_cmp_gt] at hc
          rw [if_neg (by omega)] at h
          refine c_notes hA hV ⟨k0, k1⟩ (fun u1 n1 n2 n3 => ?_)
          have e : ∀ j, hI u1 142 j = hI u 142 j := fun j => (n2.1 142 (by omega) j).1
          refine c_of n1.1 ⟨k0, k1⟩ hi (by omega) ?_
          refine c_sets n1.1 ⟨k0, k1⟩ hi (by omega) ?_
          refine c_sets n1.1 ⟨k0, k1⟩ hi (by omega) ?_
          have hf : fA (fun a => a = 142) u1 (sI (sI u1 142 (86 * k + 7 * i + 5) a) 142 (86 * k + 7 * i + 6) b) := fA_tr (fA_sI _ _ _ rfl) (fA_sI _ _ _ rfl)
          refine q_eq (h _ (mA_set2 (A := A) n1 hV ⟨k0, k1⟩ ⟨i0, by omega⟩ hf (fun j hj => ?_) (Fw_set ?_ ?_ ?_ ?_ ?_ ?_ ?_)) (fM_of (p := fun a => 139 ≤ a ∧ a ≤ 155) (fA_tr (fA_wk n2 (fun a => by omega)) (fA_wk hf (fun a => by omega))) (fun _ z => z) n3)) ?_
          · rw [hI_sI, if_neg (by omega), hI_sI, if_neg (by omega)]
          · rw [hI_sI, if_neg (by omega), hI_sI, if_neg (by omega), e]
            exact s0
          · rw [hI_sI, if_neg (by omega), hI_sI, if_neg (by omega), e]
            exact s1
          · rw [hI_sI, if_neg (by omega), hI_sI, if_neg (by omega), e]
            exact s2
          · rw [hI_sI, if_neg (by omega), hI_sI, if_neg (by omega), e]
            exact s3
          · rw [hI_sI, if_neg (by omega), hI_sI, if_neg (by omega), e]
            exact s4
          · rw [hI_sI, if_neg (by omega), hI_sI, if_pos ⟨rfl, rfl⟩]
            rfl
          · rw [hI_sI, if_pos ⟨rfl, rfl⟩]
            rfl
          · rw [e]
            exact s5
  · rw [if_pos (by intro z; exact hn ⟨z.1, z.2.1, by have := hm z.1.1 z.1.2; omega⟩)] at h
    exact h u hA (fM_rfl u)
theorem c_gain {d : Nat} {k i g : Int} {u : aS} {Q : aQ} {A : Al} (hA : mA u A) (hV : vTr A.2.2.2.1) (h : ∀ u', mA u' (A.1, A.2.1, A.2.2.1, (oGain A.2.2.2.1 k i g).2, A.2.2.2.2) → fM u u' → Q (some (vI (oGain A.2.2.2.1 k i g).1)) u') : wpm (d + 4) M_X8_gain [vR 139, vI k, vI i, vI g] u Q := by
  have hS := hA.1
  unfold oGain at h
  refine e_X8_gain rfl (run [] 150 ?_)
  have hm : 0 ≤ k → k ≤ 3 → hI u 142 (86 * k + 84) = (A.2.2.2.1 k).1.1.length ∧ (A.2.2.2.1 k).1.1.length ≤ 12 := fun k0 k1 => ⟨(hA.2.2.2.2.1 k k0 k1).1.1, hV.len k0 k1⟩
  refine c_isSpan hS (fun k0 k1 => by have := hm k0 k1; omega) (fun k0 k1 i0 i1 => ?_) (fun hn => ?_)
  · obtain ⟨e1, e2⟩ := hm k0 k1
    rw [if_neg (by omega)] at h
    obtain ⟨c1, c2, c3, c4⟩ := hA.2.2.2.2.1 k k0 k1
    have vk := hV.now k0 k1
    obtain ⟨s0, s1, s2, s3, s4, s5, s6⟩ := mTk_sp c1 i0 (by omega)
    have hi : 0 ≤ i ∧ i ≤ 11 := by omega
    refine c_in (fun g0 g1 => ?_) (fun g0 => ?_)
    · rw [if_neg (by omega)] at h
      refine c_notes hA hV ⟨k0, k1⟩ (fun u1 n1 n2 n3 => ?_)
      have e : ∀ j, hI u1 142 j = hI u 142 j := fun j => (n2.1 142 (by omega) j).1
      refine c_of n1.1 ⟨k0, k1⟩ hi (by omega) ?_
      refine c_sets n1.1 ⟨k0, k1⟩ hi (by omega) ?_
      have hf : fA (fun a => a = 142) u1 (sI u1 142 (86 * k + 7 * i + 4) g) := fA_sI _ _ _ rfl
      refine q_eq (h _ (mA_set2 (A := A) n1 hV ⟨k0, k1⟩ ⟨i0, by omega⟩ hf (fun j hj => ?_) (Fw_set ?_ ?_ ?_ ?_ ?_ ?_ ?_)) (fM_of (p := fun a => 139 ≤ a ∧ a ≤ 155) (fA_tr (fA_wk n2 (fun a => by omega)) (fA_wk hf (fun a => by omega))) (fun _ z => z) n3)) ?_
      · rw [hI_sI, if_neg (by omega)]
      · rw [hI_sI, if_neg (by omega), e]
        exact s0
      · rw [hI_sI, if_neg (by omega), e]
        exact s1
      · rw [hI_sI, if_neg (by omega), e]
        exact s2
      · rw [hI_sI, if_neg (by omega), e]
        exact s3
      · rw [hI_sI, if_pos ⟨rfl, rfl⟩]
        rfl
      · rw [hI_sI, if_neg (by omega), e]
        exact s5
      · rw [hI_sI, if_neg (by omega), e]
        exact s6
      · rw [e]
        exact s4
    · rw [if_pos (by omega)] at h
      exact h u hA (fM_rfl u)
  · rw [if_pos (by intro z; exact hn ⟨z.1, z.2.1, by have := hm z.1.1 z.1.2; omega⟩)] at h
    exact h u hA (fM_rfl u)
theorem c_shift {d : Nat} {k n : Int} {u : aS} {Q : aQ} {A : Al} (hA : mA u A) (hV : vTr A.2.2.2.1) (h : ∀ u', mA u' (A.1, A.2.1, A.2.2.1, (oShift A.2.2.2.1 k n).2, A.2.2.2.2) → fM u u' → Q (some (vI (oShift A.2.2.2.1 k n).1)) u') : wpm (d + 3) M_X8_shift [vR 139, vI k, vI n] u Q := by
  have hS := hA.1
  unfold oShift at h
  refine e_X8_shift rfl (run [] 150 ?_)
  refine c_isTrack (fun k0 k1 => ?_) (fun k0 => ?_)
  · rw [if_neg (by omega)] at h
    refine c_in (fun n0 n1 => ?_) (fun n0 => ?_)
    · rw [if_neg (by omega)] at h
      obtain ⟨c1, c2, c3, c4⟩ := hA.2.2.2.2.1 k k0 k1
      refine c_notes hA hV ⟨k0, k1⟩ (fun u1 n1 n2 n3 => ?_)
      have e : ∀ j, hI u1 142 j = hI u 142 j := fun j => (n2.1 142 (by omega) j).1
      have hS := n1.1
      have vl := hV.len k0 k1
      repeat first
        | refine z_gq (by first | omega | (simp [hI_sI, hI_sF, hI_sR, hI_nw, hI_ff, hI_fl, hI_cp]; try omega)) ?_
        | refine z_iq rfl (by first | omega | (simp [hI_sI, hI_sF, hI_sR, hI_nw, hI_ff, hI_fl, hI_cp]; try omega)) (by first | omega | (simp [hI_sI, hI_sF, hI_sR, hI_nw, hI_ff, hI_fl, hI_cp]; try omega)) ?_
        | refine z_dq (mS.now hS) ?_
      have hf : fA (fun a => a = 142) u1 (sI u1 142 (86 * k + 85) n) := fA_sI _ _ _ rfl
      have b1 : mTk u1 142 (86 * k) (A.2.2.2.1 k).1 := mTk_e e c1
      have g := mA_lay (sh := n) (L := (A.2.2.2.1 k).1.1) n1 (vTr_nw hV k0 k1 (hV.now k0 k1)) ⟨k0, k1⟩ hf (fun j hj => by rw [hI_sI, if_neg (by omega)]) (mTk_m ?_ ?_ (fun j p hp => ?_))
      · rw [nw_up] at g
        refine q_eq (h _ g (fM_of (p := fun a => 139 ≤ a ∧ a ≤ 155) (fA_tr (fA_wk n2 (fun a => by omega)) (fA_wk hf (fun a => by omega))) (fun _ z => z) n3)) ?_
        rw [e]
        exact c1.2.1
      · rw [hI_sI, if_neg (by omega)]
        exact b1.1
      · rw [hI_sI, if_pos ⟨rfl, rfl⟩]
      · have hj := get_lt hp
        have f := mTk_f b1 hp
        have hj' : j < (A.2.2.2.1 k).1.1.length := hj
        unfold Fw at f ⊢
        simp only [] at f ⊢
        rw [hI_sI, if_neg (by omega), hI_sI, if_neg (by omega), hI_sI, if_neg (by omega), hI_sI, if_neg (by omega), hI_sI, if_neg (by omega), hI_sI, if_neg (by omega), hI_sI, if_neg (by omega)]
        exact f
    · rw [if_pos (by omega)] at h
      exact h u hA (fM_rfl u)
  · rw [if_pos (by omega)] at h
    exact h u hA (fM_rfl u)
theorem c_shut {d : Nat} {k : Int} {u : aS} {Q : aQ} {A : Al} (hA : mA u A) (hV : vTr A.2.2.2.1) (h : ∀ u', mA u' (A.1, A.2.1, A.2.2.1, (oShut A.2.2.2.1 k).2, A.2.2.2.2) → fM u u' → Q (some (vI (oShut A.2.2.2.1 k).1)) u') : wpm (d + 3) M_X8_shut [vR 139, vI k] u Q := by
  have hS := hA.1
  unfold oShut at h
  refine e_X8_shut rfl (run [] 150 ?_)
  refine c_isTrack (fun k0 k1 => ?_) (fun k0 => ?_)
  · rw [if_neg (by omega)] at h
    obtain ⟨c1, c2, c3, c4⟩ := hA.2.2.2.2.1 k k0 k1
    have vs := (hV k k0 k1).2.2
    repeat first
      | refine z_gq (by first | omega | (simp [hI_sI, hI_sF, hI_sR, hI_nw, hI_ff, hI_fl, hI_cp]; try omega)) ?_
      | refine z_iq rfl (by first | omega | (simp [hI_sI, hI_sF, hI_sR, hI_nw, hI_ff, hI_fl, hI_cp]; try omega)) (by first | omega | (simp [hI_sI, hI_sF, hI_sR, hI_nw, hI_ff, hI_fl, hI_cp]; try omega)) ?_
      | refine z_dq (mS.shut hS) ?_
    have hf : fA (fun a => a = 143) u (sI u 143 k (1 - hI u 143 k)) := fA_sI _ _ _ rfl
    refine q_eq (h _ (mA_tr hf (fun a => by omega) hA (mTr_up hA.2.2.2.2.1 hV (fun j _ => rfl) (fun j hj => ?_) (fun j _ => rfl) (fun j _ => rfl) c1 ?_ c3 c4)) (fM_of hf (fun a => by omega) rfl)) ?_
    · rw [hI_sI, if_neg (fun z => hj z.2)]
    · rw [hI_sI, if_pos ⟨rfl, rfl⟩, c2]
    · rw [hI_sI, if_pos ⟨rfl, rfl⟩, c2]
  · rw [if_pos (by omega)] at h
    exact h u hA (fM_rfl u)
