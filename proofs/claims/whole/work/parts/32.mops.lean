/-! tracks: the model's calls -/
theorem z_lq {z : Int} {X : Prop} (h : -9223372036854775808 ≤ z ∧ z ≤ 9223372036854775807) (x : X) : z_rl z X := ⟨h, x⟩
theorem nw_up (T : Tr) (k : Int) (x t : Tk) : upT (nwT T k x) k (t, (nwT T k x k).2) = nwT T k t := by
  funext j
  unfold nwT upT
  by_cases e : j = k
  · rw [if_pos e, if_pos e, if_pos rfl]
  · rw [if_neg e, if_neg e, if_neg e]
theorem nw_k (T : Tr) (k : Int) (x : Tk) : nwT T k x k = (x, hst (T k).1 (T k).2.1, (T k).2.2) := by
  unfold nwT upT
  rw [if_pos rfl]
theorem vTr_up {T : Tr} {k : Int} {v : Tk × List Tk × Int} (h : vTr T) (h1 : v.2.1.length ≤ 4) (h2 : ∀ t, t ∈ v.1 :: v.2.1 → vTk t) (h3 : v.2.2 = 0 ∨ v.2.2 = 1) : vTr (upT T k v) := by
  intro j j0 j1
  unfold upT
  by_cases e : j = k
  · rw [if_pos e]
    exact ⟨h1, h2, h3⟩
  · rw [if_neg e]
    exact h j j0 j1
theorem vTr_nw {T : Tr} {k : Int} {t : Tk} (h : vTr T) (k0 : 0 ≤ k) (k1 : k ≤ 3) (ht : vTk t) : vTr (nwT T k t) := by
  obtain ⟨v1, v2, v3⟩ := h k k0 k1
  refine vTr_up h ?_ (fun x hx => ?_) v3
  · show (hst _ _).length ≤ 4
    rw [hst_len]
    omega
  · rcases List.mem_cons.mp hx with z | z
    · rw [z]
      exact ht
    · exact v2 x (List.mem_of_mem_take z)
theorem mA_lay {u u' : aS} {A : Al} {k sh : Int} {L : List Sp} (hA : mA u A) (hV : vTr A.2.2.2.1) (hk : 0 ≤ k ∧ k ≤ 3) (hf : fA (fun a => a = 142) u u') (h142 : ∀ j, ¬ (86 * k ≤ j ∧ j < 86 * k + 86) → hI u' 142 j = hI u 142 j) (hm : mTk u' 142 (86 * k) (L, sh)) : mA u' (A.1, A.2.1, A.2.2.1, upT A.2.2.2.1 k ((L, sh), (A.2.2.2.1 k).2), A.2.2.2.2) := by
  have e : ∀ a, ¬ a = 142 → ∀ i, hI u' a i = hI u a i := fun a ha i => (hf.1 a ha i).1
  obtain ⟨a1, a2, a3, a4⟩ := hA.2.2.2.2.1 k hk.1 hk.2
  exact mA_tr hf (fun a => by omega) hA (mTr_up hA.2.2.2.2.1 hV h142 (fun j _ => e 143 (by omega) j) (fun j _ => e 145 (by omega) j) (fun j _ => e 144 (by omega) j) hm ((e 143 (by omega) k).trans a2) ((e 145 (by omega) k).trans a3) (fun j t ht => mTk_e (e 144 (by omega)) (a4 j t ht)))
theorem nw_up2 (T : Tr) (k : Int) (x : Tk) (L : List Sp) : upT (nwT T k x) k ((L, (nwT T k x k).1.2), (nwT T k x k).2) = nwT T k (L, x.2) := by
  rw [nw_up, nw_k]
theorem mA_lay2 {u u' : aS} {A : Al} {k : Int} {L : List Sp} (hA : mA u (A.1, A.2.1, A.2.2.1, nwT A.2.2.2.1 k (A.2.2.2.1 k).1, A.2.2.2.2)) (hV : vTr A.2.2.2.1) (hk : 0 ≤ k ∧ k ≤ 3) (hf : fA (fun a => a = 142) u u') (h142 : ∀ j, ¬ (86 * k ≤ j ∧ j < 86 * k + 85) → hI u' 142 j = hI u 142 j) (hm : ∀ sh, hI u 142 (86 * k + 85) = sh → mTk u' 142 (86 * k) (L, sh)) : mA u' (A.1, A.2.1, A.2.2.1, nwT A.2.2.2.1 k (L, (A.2.2.2.1 k).1.2), A.2.2.2.2) ∧ hI u' 142 (86 * k + 84) = L.length := by
  obtain ⟨b1, b2, b3, b4⟩ := hA.2.2.2.2.1 k hk.1 hk.2
  have g := mA_lay hA (vTr_nw hV hk.1 hk.2 (hV.now hk.1 hk.2)) hk hf (fun j hj => h142 j (by omega)) (hm _ b1.2.1)
  refine ⟨?_, (hm _ b1.2.1).1⟩
  rw [← nw_up2 A.2.2.2.1 k (A.2.2.2.1 k).1 L]
  exact g
theorem Fw_old {u : aS} {k : Int} {K : Tk} {f : Int → Int} (hK : mTk u 142 (86 * k) K) (hl : K.1.length ≤ 12) (hf : ∀ j, 0 ≤ j → j < 84 → f j = hI u 142 (86 * k + j)) : ∀ e, e ∈ en 0 K.1 → Fw f e.1 e.2 := by
  intro e he
  have g := en_mem he
  have h := mTk_f hK g.2.2.2
  have e1 : (((e.1 - 0).toNat : Nat) : Int) = e.1 := by omega
  rw [e1] at h
  unfold Fw at h ⊢
  rw [hf _ (by omega) (by omega), hf _ (by omega) (by omega), hf _ (by omega) (by omega), hf _ (by omega) (by omega), hf _ (by omega) (by omega), hf _ (by omega) (by omega), hf _ (by omega) (by omega)]
  exact h
theorem spA_get {l : List Sp} {i : Int} (h0 : 0 ≤ i) (h1 : i < l.length) : l[i.toNat]? = some (spA l i) := by
  unfold spA
  rw [List.getElem?_eq_getElem (show i.toNat < l.length by omega)]
  rfl
theorem spA_mem {l : List Sp} {i : Int} (h0 : 0 ≤ i) (h1 : i < l.length) : spA l i ∈ l ∧ (i, spA l i) ∈ en 0 l := by
  have h := spA_get h0 h1
  have g := en_get (i := 0) h
  have e : (0 : Int) + (i.toNat : Int) = i := by omega
  rw [e] at g
  exact ⟨(en_mem g).2.2.1, g⟩
theorem mTk_sp {u : aS} {a : Nat} {b i : Int} {K : Tk} (h : mTk u a b K) (h0 : 0 ≤ i) (h1 : i < K.1.length) : hI u a (b + 7 * i) = q0 (spA K.1 i) ∧ hI u a (b + 7 * i + 1) = q1 (spA K.1 i) ∧ hI u a (b + 7 * i + 2) = q2 (spA K.1 i) ∧ hI u a (b + 7 * i + 3) = q3 (spA K.1 i) ∧ hI u a (b + 7 * i + 4) = q4 (spA K.1 i) ∧ hI u a (b + 7 * i + 5) = q5 (spA K.1 i) ∧ hI u a (b + 7 * i + 6) = q6 (spA K.1 i) := by
  have g := h.2.2 i.toNat _ (spA_get h0 h1)
  have e : ((i.toNat : Nat) : Int) = i := by omega
  rw [e] at g
  exact g
theorem mTk_set {u u' : aS} {a : Nat} {b i : Int} {K : Tk} {p : Sp} (hK : mTk u a b K) (hl : K.1.length ≤ 12) (h0 : 0 ≤ i) (h1 : i < K.1.length) (h : ∀ q, 0 ≤ q → q < 86 → ¬ (7 * i ≤ q ∧ q < 7 * i + 7) → hI u' a (b + q) = hI u a (b + q)) (hp : Fw (fun q => hI u' a (b + q)) i p) : mTk u' a b (stL K.1 i p, K.2) := by
  unfold stL
  refine mTk_m ?_ ?_ (fun j q hq => ?_)
  · rw [h 84 (by omega) (by omega) (by omega), hK.1]
    simp
  · rw [h 85 (by omega) (by omega) (by omega)]
    exact hK.2.1
  · have hq' : (K.1.set i.toNat p)[j]? = some q := hq
    rw [List.getElem?_set] at hq'
    by_cases e : i.toNat = j
    · rw [if_pos e, if_pos (by omega)] at hq'
      have e1 : p = q := by simpa using hq'
      have e2 : (j : Int) = i := by omega
      rw [← e1, e2]
      exact hp
    · rw [if_neg e] at hq'
      have hj := get_lt hq'
      have f := mTk_f hK hq'
      unfold Fw at f ⊢
      simp only [] at f ⊢
      rw [h _ (by omega) (by omega) (by omega), h _ (by omega) (by omega) (by omega), h _ (by omega) (by omega) (by omega), h _ (by omega) (by omega) (by omega), h _ (by omega) (by omega) (by omega), h _ (by omega) (by omega) (by omega), h _ (by omega) (by omega) (by omega)]
      exact f
theorem c_put {d : Nat} {k s f m t : Int} {u : aS} {Q : aQ} {A : Al} (hA : mA u A) (hZ : vSz A.1) (hV : vTr A.2.2.2.1) (h : ∀ u', mA u' (A.1, A.2.1, A.2.2.1, (oPut A.1 A.2.2.2.1 k s f m t).2, A.2.2.2.2) → fM u u' → Q (some (vI (oPut A.1 A.2.2.2.1 k s f m t).1)) u') : wpm (d + 3) M_X8_put [vR 139, vI k, vI s, vI f, vI m, vI t] u Q := by
  have hS := hA.1
  have hK := hA.2.1
  have e := hK.1
  have v := hZ.1
  unfold oPut at h
  refine e_X8_put rfl (run [] 100 ?_)
  refine c_isTrack (fun k0 k1 => ?_) (fun k0 => ?_)
  · repeat first
      | refine z_gq (by first | omega | (simp [hI_sI, hI_sF, hI_sR, hI_nw, hI_ff, hI_fl, hI_cp]; try omega)) ?_
      | refine z_iq rfl (by first | omega | (simp [hI_sI, hI_sF, hI_sR, hI_nw, hI_ff, hI_fl, hI_cp]; try omega)) (by first | omega | (simp [hI_sI, hI_sF, hI_sR, hI_nw, hI_ff, hI_fl, hI_cp]; try omega)) ?_
      | refine z_dq (mS.now hS) ?_
      | refine z_dq (mS.floats hS) ?_
      | refine z_dq (mS.sizes hS) ?_
      | refine z_dq (mS.shut hS) ?_
      | refine z_dq (mS.past hS) ?_
      | refine z_dq (mS.deeds hS) ?_
      | refine z_dq (mS.images hS) ?_
      | refine z_dq (mS.imageShut hS) ?_
      | refine z_dq (mS.kept hS) ?_
      | refine z_dq (mS.owner hS) ?_
      | refine z_dq (mS.old hS) ?_
      | refine z_dq (mS.letters hS) ?_
      | refine z_dq (mS.toldSizes hS) ?_
      | refine z_dq (mS.sort hS) ?_
      | refine z_dq (mS.room hS) ?_
      | refine z_dq (mS.things hS) ?_
    refine c_in (fun s0 s1 => ?_) (fun s0 => ?_)
    · rw [if_neg (by omega)] at h
      have es := hK.2.1 s s0 (by omega)
      have vs := hZ.2 s s0 (by omega)
      repeat first
        | refine z_gq (by first | omega | (simp [hI_sI, hI_sF, hI_sR, hI_nw, hI_ff, hI_fl, hI_cp]; try omega)) ?_
        | refine z_iq rfl (by first | omega | (simp [hI_sI, hI_sF, hI_sR, hI_nw, hI_ff, hI_fl, hI_cp]; try omega)) (by first | omega | (simp [hI_sI, hI_sF, hI_sR, hI_nw, hI_ff, hI_fl, hI_cp]; try omega)) ?_
        | refine z_dq (mS.sizes hS) ?_
      refine c_in (fun f0 f1 => ?_) (fun f0 => ?_)
      · repeat first
          | refine z_gq (by first | omega | (simp [hI_sI, hI_sF, hI_sR, hI_nw, hI_ff, hI_fl, hI_cp]; try omega)) ?_
          | refine z_iq rfl (by first | omega | (simp [hI_sI, hI_sF, hI_sR, hI_nw, hI_ff, hI_fl, hI_cp]; try omega)) (by first | omega | (simp [hI_sI, hI_sF, hI_sR, hI_nw, hI_ff, hI_fl, hI_cp]; try omega)) ?_
          | refine z_dq (mS.sizes hS) ?_
        refine c_in (fun m0 m1 => ?_) (fun m0 => ?_)
        · repeat first
            | refine z_gq (by first | omega | (simp [hI_sI, hI_sF, hI_sR, hI_nw, hI_ff, hI_fl, hI_cp]; try omega)) ?_
            | refine z_iq rfl (by first | omega | (simp [hI_sI, hI_sF, hI_sR, hI_nw, hI_ff, hI_fl, hI_cp]; try omega)) (by first | omega | (simp [hI_sI, hI_sF, hI_sR, hI_nw, hI_ff, hI_fl, hI_cp]; try omega)) ?_
            | refine z_dq (mS.sizes hS) ?_
          refine c_in (fun t0 t1 => ?_) (fun t0 => ?_)
          · rw [if_neg (by omega)] at h
            obtain ⟨a1, a2, a3, a4⟩ := hA.2.2.2.2.1 k k0 k1
            have vk := hV.now k0 k1
            refine c_tells hS ⟨k0, k1⟩ a1 vk.1 (fun u1 m1 m2 m3 m4 => ?_)
            have hA1 := mA_w m1 (fun a => by omega) hA
            have hS1 := hA1.1
            refine c_brings hS1 t0 (by omega) (by omega) ?_
            refine c_fades hS1 ?_
            have hP : Rp (hI (sI (sI (sI (fl (sI (sI (sI (sI u1 150 84 s) 150 85 f) 150 86 m) 150 87 t) 149 t (t + m) 12) 150 88 8) 150 89 0) 150 90 0) 149) (-1) (layR (A.2.2.2.1 k).1.1 (s, f, m, t, 8, 0, 0) (-1)) := by
              refine lay_Rp vk.1.1 t0 m0 (by show t + m ≤ 128; omega) vk.1.2.1 (fun x x0 x1 => ?_)
              show (if 149 = 149 ∧ t ≤ x ∧ x < t + m then 12 else hI u1 149 x) = if t ≤ x ∧ x < t + m then 12 else _
              rw [m3 x x0 x1]
              by_cases hx : t ≤ x ∧ x < t + m
              · rw [if_pos ⟨rfl, hx⟩, if_pos hx]
              · rw [if_neg (fun z => hx z.2), if_neg hx]
                split
                · assumption
                · rfl
            have hM : ∀ e, e ∈ layR (A.2.2.2.1 k).1.1 (s, f, m, t, 8, 0, 0) (-1) → Mq (hI (sI (sI (sI (fl (sI (sI (sI (sI u1 150 84 s) 150 85 f) 150 86 m) 150 87 t) 149 t (t + m) 12) 150 88 8) 150 89 0) 150 90 0) 150) e ∧ 0 ≤ e.1 ∧ e.1 ≤ 12 := by
              intro e he
              rcases ins_mem.mp he with z | z
              · subst z
                refine ⟨Mq_same ?_ ?_, by show 0 ≤ (12 : Int); omega, by show (12 : Int) ≤ 12; omega⟩
                · simp [Fw, hI_sI, hI_fl, q0, q1, q2, q3, q4, q5, q6]
                · simp [vP, q0, q1, q2, q3, q4, q5, q6]
                  omega
              · refine ⟨Mq_rs vk.1.2.2 (Fw_old a1 vk.1.2.1 (fun j j0 j1 => ?_)) e z, ?_⟩
                · rw [← m4 j j0 j1]
                  simp [hI_sI, hI_fl]
                  omega
                · obtain ⟨c, f1, f2, f3, f4⟩ := rs_mem z
                  have := en_mem f1
                  have := vk.1.2.1
                  omega
            refine c_runs hS1 ?_
            rw [Rp_n hP]
            unfold lyT at h
            refine z_bq (fun hz => ?_) (fun hz => ?_)
            · rw [if_pos (by omega)] at h
              refine h _ (mA_w (p := fun a => a = 149 ∨ a = 150) (u := u1) ?_ (fun a => by omega) hA1) (fM_of (p := fun a => a = 149 ∨ a = 150) (fA_tr m1 ?_) (fun a => by omega) m2)
              · exact fA_tr (fA_sI _ _ _ (by omega)) (fA_tr (fA_sI _ _ _ (by omega)) (fA_tr (fA_sI _ _ _ (by omega)) (fA_tr (fA_sI _ _ _ (by omega)) (fA_tr (fA_fl _ _ _ _ (by omega)) (fA_tr (fA_sI _ _ _ (by omega)) (fA_tr (fA_sI _ _ _ (by omega)) (fA_sI _ _ _ (by omega))))))))
              · exact fA_tr (fA_sI _ _ _ (by omega)) (fA_tr (fA_sI _ _ _ (by omega)) (fA_tr (fA_sI _ _ _ (by omega)) (fA_tr (fA_sI _ _ _ (by omega)) (fA_tr (fA_fl _ _ _ _ (by omega)) (fA_tr (fA_sI _ _ _ (by omega)) (fA_tr (fA_sI _ _ _ (by omega)) (fA_sI _ _ _ (by omega))))))))
            · rw [if_neg (by omega)] at h
              have hf3 : fA (fun a => a = 149 ∨ a = 150) u1 (sI (sI (sI (fl (sI (sI (sI (sI u1 150 84 s) 150 85 f) 150 86 m) 150 87 t) 149 t (t + m) 12) 150 88 8) 150 89 0) 150 90 0) := fA_tr (fA_sI _ _ _ (by omega)) (fA_tr (fA_sI _ _ _ (by omega)) (fA_tr (fA_sI _ _ _ (by omega)) (fA_tr (fA_sI _ _ _ (by omega)) (fA_tr (fA_fl _ _ _ _ (by omega)) (fA_tr (fA_sI _ _ _ (by omega)) (fA_tr (fA_sI _ _ _ (by omega)) (fA_sI _ _ _ (by omega))))))))
              refine c_notes (mA_w hf3 (fun a => by omega) hA1) hV ⟨k0, k1⟩ (fun u4 n1 n2 n3 => ?_)
              have o1 : hI u4 149 = _ := funext fun j => (n2.1 149 (by omega) j).1
              have o2 : hI u4 150 = _ := funext fun j => (n2.1 150 (by omega) j).1
              rw [← o1] at hP
              rw [← o2] at hM
              refine c_lays n1.1 ⟨k0, k1⟩ hP (by omega) hM (fun u5 p1 p2 p3 p4 => ?_)
              obtain ⟨hA5, e5⟩ := mA_lay2 (A := A) n1 hV ⟨k0, k1⟩ p1 p3 p4
              refine c_many hA5.1 ⟨k0, k1⟩ ?_
              refine q_eq (h u5 hA5 (fM_of (p := fun a => 139 ≤ a ∧ a ≤ 155) (fA_tr (fA_wk m1 (fun a => by omega)) (fA_tr (fA_wk hf3 (fun a => by omega)) (fA_tr (fA_wk n2 (fun a => by omega)) (fA_wk p1 (fun a => by omega))))) (fun a z => z) (p2.trans (n3.trans m2)))) (e5.trans ?_)
              simp
          · rw [if_pos (by omega)] at h
            exact h u hA (fM_rfl u)
        · rw [if_pos (by omega)] at h
          exact h u hA (fM_rfl u)
      · rw [if_pos (by omega)] at h
        exact h u hA (fM_rfl u)
    · rw [if_pos (by omega)] at h
      exact h u hA (fM_rfl u)
  · rw [if_pos (by omega)] at h
    exact h u hA (fM_rfl u)
theorem c_wipe {d : Nat} {k a b : Int} {u : aS} {Q : aQ} {A : Al} (hA : mA u A) (hV : vTr A.2.2.2.1) (h : ∀ u', mA u' (A.1, A.2.1, A.2.2.1, (oWipe A.2.2.2.1 k a b).2, A.2.2.2.2) → fM u u' → Q (some (vI (oWipe A.2.2.2.1 k a b).1)) u') : wpm (d + 3) M_X8_wipe [vR 139, vI k, vI a, vI b] u Q := by
  have hS := hA.1
  unfold oWipe at h
  refine e_X8_wipe rfl (run [] 100 ?_)
  refine c_isTrack (fun k0 k1 => ?_) (fun k0 => ?_)
  · rw [if_neg (by omega)] at h
    refine c_in (fun a0 a1 => ?_) (fun a0 => ?_)
    · refine c_in (fun b0 b1 => ?_) (fun b0 => ?_)
      · rw [if_neg (by omega)] at h
        obtain ⟨c1, c2, c3, c4⟩ := hA.2.2.2.2.1 k k0 k1
        have vk := hV.now k0 k1
        refine c_tells hS ⟨k0, k1⟩ c1 vk.1 (fun u1 m1 m2 m3 m4 => ?_)
        have hA1 := mA_w m1 (fun a => by omega) hA
        have hS1 := hA1.1
        refine c_gives hS1 a0 b0 b1 ?_
        have hP : Rp (hI (fl u1 149 a b (-1)) 149) (-1) (clrR (A.2.2.2.1 k).1.1 a b) := by
          refine clr_Rp vk.1.1 a0 b1 (fun x x0 x1 => ?_)
          show (if 149 = 149 ∧ a ≤ x ∧ x < b then -1 else hI u1 149 x) = if a ≤ x ∧ x < b then -1 else _
          rw [m3 x x0 x1]
          by_cases hx : a ≤ x ∧ x < b
          · rw [if_pos ⟨rfl, hx⟩, if_pos hx]
          · rw [if_neg (fun z => hx z.2), if_neg hx]
        have hM : ∀ e, e ∈ clrR (A.2.2.2.1 k).1.1 a b → Mq (hI (fl u1 149 a b (-1)) 150) e ∧ 0 ≤ e.1 ∧ e.1 ≤ 12 := by
          intro e z
          refine ⟨Mq_rs vk.1.2.2 (Fw_old c1 vk.1.2.1 (fun j j0 j1 => ?_)) e z, ?_⟩
          · rw [← m4 j j0 j1]
            rfl
          · obtain ⟨c, f1, f2, f3, f4⟩ := rs_mem z
            have := en_mem f1
            have := vk.1.2.1
            omega
        have hf3 : fA (fun a => a = 149 ∨ a = 150) u1 (fl u1 149 a b (-1)) := fA_fl _ _ _ _ (by omega)
        refine c_runs hS1 ?_
        rw [Rp_n hP]
        unfold lyT at h
        refine z_bq (fun hz => ?_) (fun hz => ?_)
        · rw [if_pos (by omega)] at h
          exact h _ (mA_w hf3 (fun a => by omega) hA1) (fM_of (fA_tr m1 hf3) (fun a => by omega) m2)
        · rw [if_neg (by omega)] at h
          refine c_notes (mA_w hf3 (fun a => by omega) hA1) hV ⟨k0, k1⟩ (fun u4 n1 n2 n3 => ?_)
          have o1 : hI u4 149 = _ := funext fun j => (n2.1 149 (by omega) j).1
          have o2 : hI u4 150 = _ := funext fun j => (n2.1 150 (by omega) j).1
          rw [← o1] at hP
          rw [← o2] at hM
          refine c_lays n1.1 ⟨k0, k1⟩ hP (by omega) hM (fun u5 p1 p2 p3 p4 => ?_)
          obtain ⟨hA5, e5⟩ := mA_lay2 (A := A) n1 hV ⟨k0, k1⟩ p1 p3 p4
          refine c_many hA5.1 ⟨k0, k1⟩ ?_
          refine q_eq (h u5 hA5 (fM_of (p := fun a => 139 ≤ a ∧ a ≤ 155) (fA_tr (fA_wk m1 (fun a => by omega)) (fA_tr (fA_wk hf3 (fun a => by omega)) (fA_tr (fA_wk n2 (fun a => by omega)) (fA_wk p1 (fun a => by omega))))) (fun a z => z) (p2.trans (n3.trans m2)))) (e5.trans ?_)
          simp
      · rw [if_pos (by omega)] at h
        exact h u hA (fM_rfl u)
    · rw [if_pos (by omega)] at h
      exact h u hA (fM_rfl u)
  · rw [if_pos (by omega)] at h
    exact h u hA (fM_rfl u)
theorem rs_len0 : ∀ (R : List (Int × Sp)) (i : Int), (∀ e, e ∈ R → ¬ e.1 = i) → rs 0 0 i R = R
  | [], _, _ => rfl
  | e :: R, i, h => by
    unfold rs
    rw [if_neg (h e (List.mem_cons_self ..)), if_pos (Or.inl (Int.le_refl _)), rs_len0 R i (fun f hf => h f (List.mem_cons_of_mem _ hf))]
theorem rs_len1 : ∀ (l : List Sp) (j i : Int), j ≤ i → i < j + l.length → (rs 0 0 i (en j l)).length + 1 = l.length
  | [], j, i, h0, h1 => by
    simp at h1
    omega
  | p :: l, j, i, h0, h1 => by
    simp at h1
    unfold en rs
    by_cases e : j = i
    · rw [if_pos e, rs_len0 _ _ (fun f hf => by have := en_mem hf; omega), en_len]
      rfl
    · rw [if_neg e, if_pos (Or.inl (Int.le_refl _))]
      have := rs_len1 l (j + 1) i (by omega) (by omega)
      simp
      omega
theorem ins_len (q : Int × Sp) : ∀ (R : List (Int × Sp)), (ins q R).length = R.length + 1
  | [] => rfl
  | e :: R => by
    unfold ins
    split
    · rfl
    · simp [ins_len q R]
theorem cut_len {l : List Sp} {x i : Int} {p : Sp} (h0 : 0 ≤ i) (h1 : i < l.length) : (cutR l x i p).length = l.length + 1 := by
  have := rs_len1 l 0 i h0 (by omega)
  unfold cutR
  rw [ins_len, ins_len]
  omega
theorem c_cut {d : Nat} {k x : Int} {u : aS} {Q : aQ} {A : Al} (hA : mA u A) (hV : vTr A.2.2.2.1) (h : ∀ u', mA u' (A.1, A.2.1, A.2.2.1, (oCut A.2.2.2.1 k x).2, A.2.2.2.2) → fM u u' → Q (some (vI (oCut A.2.2.2.1 k x).1)) u') : wpm (d + 3) M_X8_cut [vR 139, vI k, vI x] u Q := by
  have hS := hA.1
  unfold oCut at h
  refine e_X8_cut rfl (run [] 100 ?_)
  refine c_isTrack (fun k0 k1 => ?_) (fun k0 => ?_)
  · rw [if_neg (by omega)] at h
    refine c_in (fun a0 a1 => ?_) (fun a0 => ?_)
    · rw [if_neg (by omega)] at h
      obtain ⟨c1, c2, c3, c4⟩ := hA.2.2.2.2.1 k k0 k1
      have vk := hV.now k0 k1
      refine c_tells hS ⟨k0, k1⟩ c1 vk.1 (fun u1 m1 m2 m3 m4 => ?_)
      have hA1 := mA_w m1 (fun a => by omega) hA
      have hS1 := hA1.1
      have hS := hA1.1
      have x1 := m3 x (by omega) (by omega)
      have x2 := m3 (x - 1) (by omega) (by omega)
      have hM1 := fM_of m1 (fun a => by omega) m2
      repeat first
        | refine z_gq (by first | omega | (simp [hI_sI, hI_sF, hI_sR, hI_nw, hI_ff, hI_fl, hI_cp]; try omega)) ?_
        | refine z_iq rfl (by first | omega | (simp [hI_sI, hI_sF, hI_sR, hI_nw, hI_ff, hI_fl, hI_cp]; try omega)) (by first | omega | (simp [hI_sI, hI_sF, hI_sR, hI_nw, hI_ff, hI_fl, hI_cp]; try omega)) ?_
        | refine z_dq (mS.owner hS) ?_
      refine z_bq (fun hz => ?_) (fun hz => ?_)
      · rw [if_pos (Or.inl (by omega))] at h
        exact h u1 hA1 hM1
      · have ob := own_b (l := (A.2.2.2.1 k).1.1) x
        have sm := spA_mem (l := (A.2.2.2.1 k).1.1) (i := oR (en 0 (A.2.2.2.1 k).1.1) x) (by omega) (by omega)
        have oi := own_iff vk.1.1 sm.2 x
        have oj : oR (en 0 (A.2.2.2.1 k).1.1) (x - 1) = oR (en 0 (A.2.2.2.1 k).1.1) x ↔ q3 (spA (A.2.2.2.1 k).1.1 (oR (en 0 (A.2.2.2.1 k).1.1) x)) ≤ x - 1 ∧ x - 1 < qe (spA (A.2.2.2.1 k).1.1 (oR (en 0 (A.2.2.2.1 k).1.1) x)) := own_iff vk.1.1 sm.2 (x - 1)
        have eS := (hA1.2.2.2.2.1 k k0 k1).1.1
        have hin : q3 (spA (A.2.2.2.1 k).1.1 (oR (en 0 (A.2.2.2.1 k).1.1) x)) ≤ x ∧ x < qe (spA (A.2.2.2.1 k).1.1 (oR (en 0 (A.2.2.2.1 k).1.1) x)) := oi.mp rfl
        repeat first
          | refine z_gq (by first | omega | (simp [hI_sI, hI_sF, hI_sR, hI_nw, hI_ff, hI_fl, hI_cp]; try omega)) ?_
          | refine z_iq rfl (by first | omega | (simp [hI_sI, hI_sF, hI_sR, hI_nw, hI_ff, hI_fl, hI_cp]; try omega)) (by first | omega | (simp [hI_sI, hI_sF, hI_sR, hI_nw, hI_ff, hI_fl, hI_cp]; try omega)) ?_
          | refine z_dq (mS.owner hS) ?_
        refine z_bq (fun hy => ?_) (fun hy => ?_)
        · have hlt : q3 (spA (A.2.2.2.1 k).1.1 (oR (en 0 (A.2.2.2.1 k).1.1) x)) < x := by
            have := oj.mp (by omega)
            omega
          rw [if_neg (by omega)] at h
          have cl := cut_len (l := (A.2.2.2.1 k).1.1) (x := x) (i := oR (en 0 (A.2.2.2.1 k).1.1) x) (p := spA (A.2.2.2.1 k).1.1 (oR (en 0 (A.2.2.2.1 k).1.1) x)) (by omega) (by omega)
          have vl := vk.1.2.1
          refine c_many hS1 ⟨k0, k1⟩ ?_
          unfold lyT at h
          refine z_bq (fun hw => ?_) (fun hw => ?_)
          · rw [if_pos (by omega)] at h
            exact h u1 hA1 hM1
          · rw [if_neg (by omega)] at h
            have hP : Rp (hI u1 149) x (cutR (A.2.2.2.1 k).1.1 x (oR (en 0 (A.2.2.2.1 k).1.1) x) (spA (A.2.2.2.1 k).1.1 (oR (en 0 (A.2.2.2.1 k).1.1) x))) := cut_Rp (c := (oR (en 0 (A.2.2.2.1 k).1.1) x, spA (A.2.2.2.1 k).1.1 (oR (en 0 (A.2.2.2.1 k).1.1) x))) vk.1.1 sm.2 hlt hin.2 m3
            have fo := Fw_old c1 vk.1.2.1 m4
            have hM : ∀ e, e ∈ cutR (A.2.2.2.1 k).1.1 x (oR (en 0 (A.2.2.2.1 k).1.1) x) (spA (A.2.2.2.1 k).1.1 (oR (en 0 (A.2.2.2.1 k).1.1) x)) → Mq (hI u1 150) e ∧ 0 ≤ e.1 ∧ e.1 ≤ 12 := by
              intro e he
              have vp := vk.1.2.2 _ sm.1
              rcases ins_mem.mp he with z | z
              · subst z
                exact ⟨Mq_frm (fo _ sm.2) vp hlt, by show 0 ≤ oR (en 0 (A.2.2.2.1 k).1.1) x; omega, by show oR (en 0 (A.2.2.2.1 k).1.1) x ≤ 12; omega⟩
              · rcases ins_mem.mp z with y | y
                · subst y
                  exact ⟨Mq_ahd (fo _ sm.2) vp hin.2, by show 0 ≤ oR (en 0 (A.2.2.2.1 k).1.1) x; omega, by show oR (en 0 (A.2.2.2.1 k).1.1) x ≤ 12; omega⟩
                · refine ⟨Mq_rs vk.1.2.2 fo e y, ?_⟩
                  obtain ⟨c, f1, f2, f3, f4⟩ := rs_mem y
                  have := en_mem f1
                  omega
            refine c_notes hA1 hV ⟨k0, k1⟩ (fun u4 n1 n2 n3 => ?_)
            have o1 : hI u4 149 = _ := funext fun j => (n2.1 149 (by omega) j).1
            have o2 : hI u4 150 = _ := funext fun j => (n2.1 150 (by omega) j).1
            rw [← o1] at hP
            rw [← o2] at hM
            refine c_lays n1.1 ⟨k0, k1⟩ hP (by omega) hM (fun u5 p1 p2 p3 p4 => ?_)
            obtain ⟨hA5, e5⟩ := mA_lay2 (A := A) n1 hV ⟨k0, k1⟩ p1 p3 p4
            refine c_many hA5.1 ⟨k0, k1⟩ ?_
            refine q_eq (h u5 hA5 (fM_of (p := fun a => 139 ≤ a ∧ a ≤ 155) (fA_tr (fA_wk m1 (fun a => by omega)) (fA_tr (fA_wk n2 (fun a => by omega)) (fA_wk p1 (fun a => by omega)))) (fun a z => z) (p2.trans (n3.trans m2)))) (e5.trans ?_)
            simp
        · rw [if_pos (Or.inr (by
            apply Classical.byContradiction
            intro hn
            have := oj.mpr ⟨by omega, by omega⟩
            omega))] at h
          exact h u1 hA1 hM1
    · rw [if_pos (by omega)] at h
      exact h u hA (fM_rfl u)
  · rw [if_pos (by omega)] at h
    exact h u hA (fM_rfl u)
