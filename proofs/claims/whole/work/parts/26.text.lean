/-! text and sounds: tone -/
/-! floats into a row -/
def ff (u : aS) (a : Nat) (i j : Int) (g : Int → UInt32) : aS := (u.1, fun b q => if b = a ∧ i ≤ q ∧ q < j then g q else u.2.1 b q, u.2.2.1, u.2.2.2)
theorem hF_ff (u : aS) (a : Nat) (i j : Int) (g : Int → UInt32) (b : Nat) (q : Int) : hF (ff u a i j g) b q = if b = a ∧ i ≤ q ∧ q < j then g q else hF u b q := rfl
theorem hI_ff (u : aS) (a : Nat) (i j : Int) (g : Int → UInt32) (b : Nat) (q : Int) : hI (ff u a i j g) b q = hI u b q := rfl
theorem hR_ff (u : aS) (a : Nat) (i j : Int) (g : Int → UInt32) (b : Nat) (q : Int) : hR (ff u a i j g) b q = hR u b q := rfl
theorem ff_end (u : aS) (a : Nat) {i j : Int} (g : Int → UInt32) (h : j ≤ i) : ff u a i j g = u := by
  refine aS_ext (fun _ _ => rfl) (fun b q => ?_) (fun _ _ => rfl) rfl
  rw [hF_ff, if_neg (by omega)]
theorem ff_step (u : aS) (a : Nat) {i j : Int} (g : Int → UInt32) (h : i < j) : ff (sF u a i (g i)) a (i + 1) j g = ff u a i j g := by
  refine aS_ext (fun _ _ => rfl) (fun b q => ?_) (fun _ _ => rfl) rfl
  rw [hF_ff, hF_ff, hF_sF]
  by_cases e : b = a
  · by_cases e2 : q = i
    · rw [if_neg (by omega), if_pos ⟨e, e2⟩, if_pos ⟨e, by omega, by omega⟩, e2]
    · rw [if_neg (show ¬ (b = a ∧ q = i) from fun z => e2 z.2)]
      by_cases e3 : i + 1 ≤ q ∧ q < j
      · rw [if_pos ⟨e, e3⟩, if_pos ⟨e, by omega, by omega⟩]
      · rw [if_neg (fun z => e3 z.2), if_neg (fun z => e3 ⟨by omega, z.2.2⟩)]
  · rw [if_neg (fun z => e z.1), if_neg (fun z => e z.1), if_neg (fun z => e z.1)]
theorem fA_ff {p : Nat → Prop} (u : aS) {a : Nat} (i j : Int) (g : Int → UInt32) (h : p a) : fA p u (ff u a i j g) := ⟨fun c hb q => ⟨rfl, by rw [hF_ff, if_neg (fun z : c = a ∧ i ≤ q ∧ q < j => hb (z.1 ▸ h))], rfl⟩, Nat.le_refl _⟩
theorem fM_ff (u : aS) {a : Nat} (i j : Int) (g : Int → UInt32) (h : 139 ≤ a ∧ a ≤ 155) : fM u (ff u a i j g) := ⟨fun b q hb => ⟨rfl, by rw [hF_ff, if_neg (by omega)], rfl⟩, rfl⟩
theorem q_eq {Q : aQ} {x y : Int} {u : aS} (h : Q (some (vI y)) u) (e : x = y) : Q (some (vI x)) u := e ▸ h
theorem q_fq {Q : aQ} {x y : UInt32} {u : aS} (h : Q (some (vF y)) u) (e : x = y) : Q (some (vF x)) u := e ▸ h
def vTx (K : Tx) : Prop := (0 ≤ K.1 ∧ K.1 ≤ 200) ∧ ∀ i, 0 ≤ i → i < K.1 → 0 ≤ K.2 i ∧ K.2 i ≤ 255
def oWrite (K : Tx) (l : Int) : Int × Tx := if ¬ (0 ≤ l ∧ l ≤ 255) then (-2000000002, K) else if K.1 = 200 then (-2000000004, K) else (K.1 + 1, K.1 + 1, up K.2 K.1 l)
theorem vTx_write {K : Tx} (l : Int) (h : vTx K) : vTx (oWrite K l).2 := by
  unfold oWrite
  split
  · exact h
  · split
    · exact h
    · refine ⟨⟨?_, ?_⟩, fun i i0 i1 => ?_⟩
      · show 0 ≤ K.1 + 1
        have := h.1.1
        omega
      · show K.1 + 1 ≤ 200
        have := h.1.2
        omega
      · have i1' : i < K.1 + 1 := i1
        show 0 ≤ (if i = K.1 then l else K.2 i) ∧ (if i = K.1 then l else K.2 i) ≤ 255
        split
        · omega
        · exact h.2 i i0 (by omega)
theorem c_write {d : Nat} {l : Int} {u : aS} {Q : aQ} {A : Al} (hA : mA u A) (hV : vTx A.2.1) (h : ∀ u', mA u' (A.1, (oWrite A.2.1 l).2, A.2.2) → fM u u' → Q (some (vI (oWrite A.2.1 l).1)) u') : wpm (d + 2) M_X8_write [vR 139, vI l] u Q := by
  have hS := hA.1
  have hK := hA.2.2.1
  have e := hK.1
  have v := hV.1
  unfold oWrite at h
  refine e_X8_write rfl (run [] 60 ?_)
  refine c_in (fun a0 a1 => ?_) (fun a0 => ?_)
  · rw [if_neg (by omega)] at h
    repeat first
      | refine z_gq (by first | omega | (simp [hI_sI, hI_sF, hI_sR, hI_nw, hI_ff, hI_fl, hI_cp]; try omega)) ?_
      | refine z_iq rfl (by first | omega | (simp [hI_sI, hI_sF, hI_sR, hI_nw, hI_ff, hI_fl, hI_cp]; try omega)) (by first | omega | (simp [hI_sI, hI_sF, hI_sR, hI_nw, hI_ff, hI_fl, hI_cp]; try omega)) ?_
      | refine z_dq (mS.now hS) ?_
      | refine z_dq (mS.floats hS) ?_
      | refine z_dq (mS.sizes hS) ?_
      | refine z_dq (mS.shut hS) ?_
      | refine z_dq (mS.past hS) ?_
      | refine z_dq (mS.deeds hS) ?_
      | refine z_dq (mS.images hS) ?_
      | refine z_dq (mS.imageShut hS) ?_
      | refine z_dq (mS.kept hS) ?_
      | refine z_dq (mS.owner hS) ?_
      | refine z_dq (mS.old hS) ?_
      | refine z_dq (mS.letters hS) ?_
      | refine z_dq (mS.toldSizes hS) ?_
      | refine z_dq (mS.sort hS) ?_
      | refine z_dq (mS.room hS) ?_
      | refine z_dq (mS.things hS) ?_
    refine z_bq (fun hz => ?_) (fun hz => ?_)
    · rw [if_pos (by omega)] at h
      exact h u hA (fM_rfl u)
    · rw [if_neg (by omega)] at h
      repeat first
        | refine z_gq (by first | omega | (simp [hI_sI, hI_sF, hI_sR, hI_nw, hI_ff, hI_fl, hI_cp]; try omega)) ?_
        | refine z_iq rfl (by first | omega | (simp [hI_sI, hI_sF, hI_sR, hI_nw, hI_ff, hI_fl, hI_cp]; try omega)) (by first | omega | (simp [hI_sI, hI_sF, hI_sR, hI_nw, hI_ff, hI_fl, hI_cp]; try omega)) ?_
        | refine z_dq (mS.now hS) ?_
        | refine z_dq (mS.floats hS) ?_
        | refine z_dq (mS.sizes hS) ?_
        | refine z_dq (mS.shut hS) ?_
        | refine z_dq (mS.past hS) ?_
        | refine z_dq (mS.deeds hS) ?_
        | refine z_dq (mS.images hS) ?_
        | refine z_dq (mS.imageShut hS) ?_
        | refine z_dq (mS.kept hS) ?_
        | refine z_dq (mS.owner hS) ?_
        | refine z_dq (mS.old hS) ?_
        | refine z_dq (mS.letters hS) ?_
        | refine z_dq (mS.toldSizes hS) ?_
        | refine z_dq (mS.sort hS) ?_
        | refine z_dq (mS.room hS) ?_
        | refine z_dq (mS.things hS) ?_
      refine q_eq (y := A.2.1.1 + 1) (h _ ⟨hS, hA.2.1, ⟨?_, fun i i0 i1 => ?_⟩, hA.2.2.2⟩ ?_) ?_
      · simp [hI_sI]
        omega
      · have i1' : i < A.2.1.1 + 1 := i1
        show (if 151 = 151 ∧ i = hI u 139 13 then l else hI u 151 i) = if i = A.2.1.1 then l else A.2.1.2 i
        by_cases e2 : i = A.2.1.1
        · rw [if_pos (by omega), if_pos e2]
        · rw [if_neg (by omega), if_neg e2, hK.2 i i0 (by omega)]
      · exact fM_tr (fM_sI u _ _ (by omega)) (fM_sI _ _ _ (by omega))
      · simp [hI_sI]
        omega
  · rw [if_pos (by omega)] at h
    exact h u hA (fM_rfl u)
theorem c_erase {d : Nat} {u : aS} {Q : aQ} {A : Al} (hA : mA u A) (h : ∀ u', mA u' (A.1, (0, A.2.1.2), A.2.2) → fM u u' → Q (some (vI A.2.1.1)) u') : wpm (d + 1) M_X8_erase [vR 139] u Q := by
  have hS := hA.1
  have hK := hA.2.2.1
  refine e_X8_erase rfl (run [] 60 ?_)
  repeat first
    | refine z_gq (by first | omega | (simp [hI_sI, hI_sF, hI_sR, hI_nw, hI_ff, hI_fl, hI_cp]; try omega)) ?_
    | refine z_iq rfl (by first | omega | (simp [hI_sI, hI_sF, hI_sR, hI_nw, hI_ff, hI_fl, hI_cp]; try omega)) (by first | omega | (simp [hI_sI, hI_sF, hI_sR, hI_nw, hI_ff, hI_fl, hI_cp]; try omega)) ?_
    | refine z_dq (mS.now hS) ?_
    | refine z_dq (mS.floats hS) ?_
    | refine z_dq (mS.sizes hS) ?_
    | refine z_dq (mS.shut hS) ?_
    | refine z_dq (mS.past hS) ?_
    | refine z_dq (mS.deeds hS) ?_
    | refine z_dq (mS.images hS) ?_
    | refine z_dq (mS.imageShut hS) ?_
    | refine z_dq (mS.kept hS) ?_
    | refine z_dq (mS.owner hS) ?_
    | refine z_dq (mS.old hS) ?_
    | refine z_dq (mS.letters hS) ?_
    | refine z_dq (mS.toldSizes hS) ?_
    | refine z_dq (mS.sort hS) ?_
    | refine z_dq (mS.room hS) ?_
    | refine z_dq (mS.things hS) ?_
  refine q_eq (h _ ⟨hS, hA.2.1, ⟨?_, fun i i0 i1 => ?_⟩, hA.2.2.2⟩ (fM_sI u _ _ (by omega))) hK.1
  · simp [hI_sI]
  · have i1' : i < 0 := i1
    omega
/-! the class -/
theorem cS_h {u u' : aS} (e : ∀ a i, (a = 8 ∨ a = 9 ∨ a = 21 ∨ a = 23 ∨ a = 10 ∨ a = 24 ∨ a = 18 ∨ a = 20) → hR u' a i = hR u a i) (h : cS u) : cS u' := by
  unfold cS
  simp only [e 8 _ (by omega), e 9 _ (by omega), e 21 _ (by omega), e 23 _ (by omega), e 10 _ (by omega), e 24 _ (by omega), e 18 _ (by omega), e 20 _ (by omega)]
  exact h
theorem cA_tx {u u' : aS} {A : Al} {K : Tx} (hA : cA u A) (hf : fA (fun a => a = 21 ∨ a = 22) u u') (hr : ∀ i, hR u' 21 i = hR u 21 i) (hK : cTx u' K) : cA u' (A.1, K, A.2.2) := by
  obtain ⟨h1, h2, h3, h4, h5, h6, h7⟩ := hA
  refine ⟨cS_h (fun a i ha => ?_) h1, Nat.le_trans h2 hf.2, cSo_f hf (fun a => by omega) h3, hK, cRk_f hf (fun a => by omega) h5, cTr_f hf (fun a => by omega) (fun b => by omega) h6, cKp_f hf (by omega) (fun j k _ _ => by omega) (fun b => by omega) h7⟩
  by_cases e : a = 21
  · subst e
    exact hr i
  · exact (hf.1 a (by omega) i).2.2
theorem cA_so {u u' : aS} {A : Al} {K : So} (hA : cA u A) (hf : fA (fun a => a = 9 ∨ (11 ≤ a ∧ a ≤ 17)) u u') (hr : ∀ i, hR u' 9 i = hR u 9 i) (hK : cSo u' K) : cA u' (K, A.2) := by
  obtain ⟨h1, h2, h3, h4, h5, h6, h7⟩ := hA
  refine ⟨cS_h (fun a i ha => ?_) h1, Nat.le_trans h2 hf.2, hK, cTx_f hf (fun a => by omega) h4, cRk_f hf (fun a => by omega) h5, cTr_f hf (fun a => by omega) (fun b => by omega) h6, cKp_f hf (by omega) (fun j k _ _ => by omega) (fun b => by omega) h7⟩
  by_cases e : a = 9
  · subst e
    exact hr i
  · exact (hf.1 a (by omega) i).2.2
/-- the reader's own cells -/
theorem cA_rd {u u' : aS} {A : Al} (hA : cA u A) (hf : fA (fun a => 23 ≤ a ∧ a ≤ 49 ∧ ¬ a = 24) u u') (hr : ∀ i, hR u' 23 i = hR u 23 i) : cA u' A := by
  obtain ⟨h1, h2, h3, h4, h5, h6, h7⟩ := hA
  refine ⟨cS_h (fun a i ha => ?_) h1, Nat.le_trans h2 hf.2, cSo_f hf (fun a => by omega) h3, cTx_f hf (fun a => by omega) h4, cRk_f hf (fun a => by omega) h5, cTr_f hf (fun a => by omega) (fun b => by omega) h6, cKp_f hf (by omega) (fun j k _ _ => by omega) (fun b => by omega) h7⟩
  by_cases e : a = 23
  · subst e
    exact hr i
  · exact (hf.1 a (by omega) i).2.2
theorem k_write {d : Nat} {l : Int} {u : aS} {Q : aQ} {A : Al} (hA : cA u A) (hV : vTx A.2.1) (h : ∀ u', cA u' (A.1, (oWrite A.2.1 l).2, A.2.2) → fA (fun a => a = 21 ∨ a = 22) u u' → Q (some (vI (oWrite A.2.1 l).1)) u') : wpm (d + 2) M_X7_write [vR 8, vI l] u Q := by
  have hS := hA.1
  have hK := hA.2.2.2.1
  have e := hK.1
  have v := hV.1
  unfold oWrite at h
  refine e_X7_write rfl (run [] 60 ?_)
  refine k_within (fun a0 a1 => ?_) (fun a0 => ?_)
  · rw [if_neg (by omega)] at h
    repeat first
      | refine z_gq (by first | omega | (simp [hI_sI, hI_sF, hI_sR, hI_nw, hI_ff, hI_fl, hI_cp]; try omega)) ?_
      | refine z_iq rfl (by first | omega | (simp [hI_sI, hI_sF, hI_sR, hI_nw, hI_ff, hI_fl, hI_cp]; try omega)) (by first | omega | (simp [hI_sI, hI_sF, hI_sR, hI_nw, hI_ff, hI_fl, hI_cp]; try omega)) ?_
      | refine z_dq (hS.text) ?_
    refine z_bq (fun hz => ?_) (fun hz => ?_)
    · rw [if_neg (by omega)] at h
      repeat first
        | refine z_gq (by first | omega | (simp [hI_sI, hI_sF, hI_sR, hI_nw, hI_ff, hI_fl, hI_cp]; try omega)) ?_
        | refine z_iq rfl (by first | omega | (simp [hI_sI, hI_sF, hI_sR, hI_nw, hI_ff, hI_fl, hI_cp]; try omega)) (by first | omega | (simp [hI_sI, hI_sF, hI_sR, hI_nw, hI_ff, hI_fl, hI_cp]; try omega)) ?_
        | refine z_dq (hS.text) ?_
      refine e_X5_append (args := [vR 21, vI l]) rfl (run [] 60 ?_)
      refine z_bq (fun hy => ?_) (fun hy => by omega)
      repeat first
        | refine z_gq (by first | omega | (simp [hI_sI, hI_sF, hI_sR, hI_nw, hI_ff, hI_fl, hI_cp]; try omega)) ?_
        | refine z_iq rfl (by first | omega | (simp [hI_sI, hI_sF, hI_sR, hI_nw, hI_ff, hI_fl, hI_cp]; try omega)) (by first | omega | (simp [hI_sI, hI_sF, hI_sR, hI_nw, hI_ff, hI_fl, hI_cp]; try omega)) ?_
        | refine z_dq (hS.letters) ?_
      have hf : fA (fun a => a = 21 ∨ a = 22) u (sI (sI u 22 (hI u 21 1) l) 21 1 (hI (sI u 22 (hI u 21 1) l) 21 1 + 1)) := fA_tr (fA_sI u _ _ (by omega)) (fA_sI _ _ _ (by omega))
      repeat first
        | refine z_gq (by first | omega | (simp [hI_sI, hI_sF, hI_sR, hI_nw, hI_ff, hI_fl, hI_cp]; try omega)) ?_
        | refine z_iq rfl (by first | omega | (simp [hI_sI, hI_sF, hI_sR, hI_nw, hI_ff, hI_fl, hI_cp]; try omega)) (by first | omega | (simp [hI_sI, hI_sF, hI_sR, hI_nw, hI_ff, hI_fl, hI_cp]; try omega)) ?_
        | refine z_dq (hS.text) ?_
      refine q_eq (h _ (cA_tx hA hf (fun i => rfl) ⟨?_, fun i i0 i1 => ?_⟩) hf) ?_
      · simp [hI_sI]
        omega
      · have i1' : i < A.2.1.1 + 1 := i1
        show (if 22 = 22 ∧ i = hI u 21 1 then l else hI u 22 i) = if i = A.2.1.1 then l else A.2.1.2 i
        by_cases e2 : i = A.2.1.1
        · rw [if_pos (by omega), if_pos e2]
        · rw [if_neg (by omega), if_neg e2, hK.2 i i0 (by omega)]
      · simp [hI_sI]
        omega
    · rw [if_pos (by omega)] at h
      exact h u hA (fA_rfl _ u)
  · rw [if_pos (by omega)] at h
    exact h u hA (fA_rfl _ u)
theorem k_erase {d : Nat} {u : aS} {Q : aQ} {A : Al} (hA : cA u A) (h : ∀ u', cA u' (A.1, (0, A.2.1.2), A.2.2) → fA (fun a => a = 21 ∨ a = 22) u u' → Q (some (vI A.2.1.1)) u') : wpm (d + 1) M_X7_erase [vR 8] u Q := by
  have hS := hA.1
  have hK := hA.2.2.2.1
  refine e_X7_erase rfl (run [] 60 ?_)
  repeat first
    | refine z_gq (by first | omega | (simp [hI_sI, hI_sF, hI_sR, hI_nw, hI_ff, hI_fl, hI_cp]; try omega)) ?_
    | refine z_iq rfl (by first | omega | (simp [hI_sI, hI_sF, hI_sR, hI_nw, hI_ff, hI_fl, hI_cp]; try omega)) (by first | omega | (simp [hI_sI, hI_sF, hI_sR, hI_nw, hI_ff, hI_fl, hI_cp]; try omega)) ?_
    | refine z_dq (hS.text) ?_
  have hf : fA (fun a => a = 21 ∨ a = 22) u (sI u 21 1 0) := fA_sI u _ _ (by omega)
  refine q_eq (h _ (cA_tx hA hf (fun i => rfl) ⟨?_, fun i i0 i1 => ?_⟩) hf) hK.1
  · simp [hI_sI]
  · have i1' : i < 0 := i1
    omega
/-! tone -/
def toneF (a b i : Int) : UInt32 := FP.i2f (Int32.ofInt (Int.tmod (a * i + b) 201 - 100))
def addS (K : So) (n : Int) (g : Int → UInt32) : So := (K.1 + 1, up K.2.1 K.1 n, fun s i => if s = K.1 then g i else K.2.2 s i)
def oTone (K : So) (a b n : Int) : Int × So := if ¬ ((0 ≤ a ∧ a ≤ 200) ∧ (0 ≤ b ∧ b ≤ 200) ∧ 1 ≤ n ∧ n ≤ 64) then (-2000000002, K) else if K.1 = 6 then (-2000000004, K) else (K.1, addS K n (toneF a b))
theorem mul_b {a i : Int} (h0 : 0 ≤ a) (h1 : a ≤ 200) (i0 : 0 ≤ i) (i1 : i ≤ 64) : 0 ≤ a * i ∧ a * i ≤ 12800 := by
  refine ⟨Int.mul_nonneg h0 i0, ?_⟩
  have h : a * i ≤ 200 * 64 := Int.mul_le_mul h1 i1 i0 (by omega)
  omega
theorem tone_r {a b i : Int} (h0 : 0 ≤ a) (h1 : a ≤ 200) (i0 : 0 ≤ i) (i1 : i ≤ 64) (b0 : 0 ≤ b) (b1 : b ≤ 200) : -100 ≤ Int.tmod (a * i + b) 201 - 100 ∧ Int.tmod (a * i + b) 201 - 100 ≤ 100 := by
  have := mul_b h0 h1 i0 i1
  rw [Int.tmod_eq_emod_of_nonneg (by omega)]
  omega
theorem w_msounds {d : Nat} {Q : aQ} {a b n : Int} (ha : 0 ≤ a ∧ a ≤ 200) (hb : 0 ≤ b ∧ b ≤ 200) (hn : n ≤ 64) {c s : Nat} : ∀ (m : Nat) (i : Int) (u : aS), mS u → (0 ≤ hI u 139 2 ∧ hI u 139 2 ≤ 5) → i + m = n → 0 ≤ i → wp (wpm d) cd_X8_sounds Q 44 [vR 139, vI a, vI b, vI n, vI n] [] (ff u 140 (64 * hI u 139 2 + i) (64 * hI u 139 2 + n) (fun q => toneF a b (q - 64 * hI u 139 2))) c s → wp (wpm d) cd_X8_sounds Q 3 [vR 139, vI a, vI b, vI n, vI i] [] u c s
  | 0, i, u, hS, hc, h1, h2, h => by
    refine run [(3, []), (44, [])] 60 ?_
    refine z_bq (fun hl => ?_) (fun hl => ?_)
    · omega
    · have e : i = n := by omega
      subst e
      rw [ff_end u _ _ (by omega)] at h
      exact h
  | m + 1, i, u, hS, hc, h1, h2, h => by
    have hm := mul_b ha.1 ha.2 h2 (show i ≤ 64 by omega)
    have hm2 := tone_r ha.1 ha.2 h2 (show i ≤ 64 by omega) hb.1 hb.2
    refine run [(3, []), (44, [])] 60 ?_
    refine z_bq (fun hl => ?_) (fun hl => by omega)
    repeat first
      | refine z_gq (by first | omega | (simp [hI_sI, hI_sF, hI_sR, hI_nw, hI_ff, hI_fl, hI_cp]; try omega)) ?_
      | refine z_iq rfl (by first | omega | (simp [hI_sI, hI_sF, hI_sR, hI_nw, hI_ff, hI_fl, hI_cp]; try omega)) (by first | omega | (simp [hI_sI, hI_sF, hI_sR, hI_nw, hI_ff, hI_fl, hI_cp]; try omega)) ?_
      | refine z_dq (mS.floats hS) ?_
    refine w_msounds ha hb hn m (i + 1) (sF u 140 (64 * hI u 139 2 + i) (toneF a b i)) hS hc (by omega) (by omega) ?_
    rw [← ff_step u _ _ (by omega), show 64 * hI u 139 2 + i - 64 * hI u 139 2 = i by omega] at h
    rw [hI_sF, show 64 * hI u 139 2 + (i + 1) = 64 * hI u 139 2 + i + 1 by omega]
    exact h
theorem mSo_add {u u' : aS} {K : So} {n : Int} {g : Int → UInt32} (h : mSo u K) (h0 : 0 ≤ K.1) (h1 : hI u' 139 2 = K.1 + 1) (h2 : ∀ s, hI u' 141 s = if s = K.1 then n else hI u 141 s) (h3 : ∀ s i, 0 ≤ s → s < K.1 → 0 ≤ i → i < 64 → hF u' 140 (64 * s + i) = hF u 140 (64 * s + i)) (h4 : ∀ i, 0 ≤ i → i < n → hF u' 140 (64 * K.1 + i) = g i) (hv : ∀ s, 0 ≤ s → s < K.1 → K.2.1 s ≤ 64) : mSo u' (addS K n g) := by
  refine ⟨h1, fun s s0 s1 => ?_, fun s i s0 s1 i0 i1 i2 => ?_⟩
  · rw [h2]
    show _ = if s = K.1 then n else K.2.1 s
    split
    · rfl
    · exact h.2.1 s s0 s1
  · have i2' : s < K.1 + 1 := i2
    have i1' : i < if s = K.1 then n else K.2.1 s := i1
    show _ = if s = K.1 then g i else K.2.2 s i
    by_cases e : s = K.1
    · rw [if_pos e] at i1' ⊢
      rw [e]
      exact h4 i i0 i1'
    · rw [if_neg e] at i1' ⊢
      rw [h3 s i s0 (by omega) i0 (by have := hv s s0 (by omega); omega)]
      exact h.2.2 s i s0 s1 i0 i1' (by omega)
def vSz (K : So) : Prop := (0 ≤ K.1 ∧ K.1 ≤ 6) ∧ ∀ s, 0 ≤ s → s < 6 → (0 ≤ K.2.1 s ∧ K.2.1 s ≤ 64) ∧ (s < K.1 → 1 ≤ K.2.1 s)
theorem c_sounds {d : Nat} {a b n : Int} {u : aS} {Q : aQ} {A : Al} (hA : mA u A) (hV : vSz A.1) (ha : 0 ≤ a ∧ a ≤ 200) (hb : 0 ≤ b ∧ b ≤ 200) (hn : 1 ≤ n ∧ n ≤ 64) (h6 : ¬ A.1.1 = 6) (h : ∀ u', mA u' (addS A.1 n (toneF a b), A.2) → fA (fun a => a = 139 ∨ a = 140 ∨ a = 141) u u' → (∀ i, ¬ i = 2 → hI u' 139 i = hI u 139 i) → nx u' = nx u → Q none u') : wpm (d + 1) M_X8_sounds [vR 139, vI a, vI b, vI n] u Q := by
  have hS := hA.1
  have hK := hA.2.1
  have e := hK.1
  have v := hV.1
  refine e_X8_sounds rfl (run [(3, [])] 60 ?_)
  refine w_msounds ha hb hn.2 n.toNat 0 u hS (by omega) (by omega) (by omega) ?_
  refine run [] 60 ?_
  repeat first
    | refine z_gq (by first | omega | (simp [hI_sI, hI_sF, hI_sR, hI_nw, hI_ff, hI_fl, hI_cp]; try omega)) ?_
    | refine z_iq rfl (by first | omega | (simp [hI_sI, hI_sF, hI_sR, hI_nw, hI_ff, hI_fl, hI_cp]; try omega)) (by first | omega | (simp [hI_sI, hI_sF, hI_sR, hI_nw, hI_ff, hI_fl, hI_cp]; try omega)) ?_
    | refine z_dq (mS.sizes hS) ?_
  refine h _ ⟨hS, ?_, hA.2.2⟩ ?_ (fun i hi => ?_) rfl
  · refine mSo_add hK v.1 ?_ (fun s => ?_) (fun s i s0 s1 i0 i1 => ?_) (fun i i0 i1 => ?_) (fun s s0 s1 => (hV.2 s s0 (by omega)).1.2)
    · simp [hI_sI, hI_ff]
      omega
    · simp [hI_sI, hI_ff, e]
    · show (if 140 = 140 ∧ 64 * hI u 139 2 + 0 ≤ 64 * s + i ∧ 64 * s + i < 64 * hI u 139 2 + n then _ else hF u 140 (64 * s + i)) = _
      rw [if_neg (by omega)]
    · show (if 140 = 140 ∧ 64 * hI u 139 2 + 0 ≤ 64 * A.1.1 + i ∧ 64 * A.1.1 + i < 64 * hI u 139 2 + n then toneF a b (64 * A.1.1 + i - 64 * hI u 139 2) else _) = _
      rw [if_pos (by omega), e, show 64 * A.1.1 + i - 64 * A.1.1 = i by omega]
  · exact fA_tr (fA_ff u _ _ _ (by omega)) (fA_tr (fA_sI _ _ _ (by omega)) (fA_sI _ _ _ (by omega)))
  · simp [hI_sI, hI_ff, hi]
theorem fM_of {u u' : aS} {p : Nat → Prop} (h : fA p u u') (hp : ∀ a, p a → 139 ≤ a ∧ a ≤ 155) (hn : nx u' = nx u) : fM u u' := ⟨fun a i ha => h.1 a (fun z => ha (hp a z)) i, hn⟩
theorem c_tone {d : Nat} {a b n : Int} {u : aS} {Q : aQ} {A : Al} (hA : mA u A) (hV : vSz A.1) (h : ∀ u', mA u' ((oTone A.1 a b n).2, A.2) → fM u u' → Q (some (vI (oTone A.1 a b n).1)) u') : wpm (d + 2) M_X8_tone [vR 139, vI a, vI b, vI n] u Q := by
  have hS := hA.1
  have hK := hA.2.1
  have e := hK.1
  have v := hV.1
  unfold oTone at h
  refine e_X8_tone rfl (run [] 60 ?_)
  refine c_in (fun a0 a1 => ?_) (fun a0 => ?_)
  · refine c_in (fun b0 b1 => ?_) (fun b0 => ?_)
    · refine c_in (fun n0 n1 => ?_) (fun n0 => ?_)
      · rw [if_neg (by omega)] at h
        repeat first
          | refine z_gq (by first | omega | (simp [hI_sI, hI_sF, hI_sR, hI_nw, hI_ff, hI_fl, hI_cp]; try omega)) ?_
          | refine z_iq rfl (by first | omega | (simp [hI_sI, hI_sF, hI_sR, hI_nw, hI_ff, hI_fl, hI_cp]; try omega)) (by first | omega | (simp [hI_sI, hI_sF, hI_sR, hI_nw, hI_ff, hI_fl, hI_cp]; try omega)) ?_
          | refine z_dq (mS.now hS) ?_
          | refine z_dq (mS.floats hS) ?_
          | refine z_dq (mS.sizes hS) ?_
          | refine z_dq (mS.shut hS) ?_
          | refine z_dq (mS.past hS) ?_
          | refine z_dq (mS.deeds hS) ?_
          | refine z_dq (mS.images hS) ?_
          | refine z_dq (mS.imageShut hS) ?_
          | refine z_dq (mS.kept hS) ?_
          | refine z_dq (mS.owner hS) ?_
          | refine z_dq (mS.old hS) ?_
          | refine z_dq (mS.letters hS) ?_
          | refine z_dq (mS.toldSizes hS) ?_
          | refine z_dq (mS.sort hS) ?_
          | refine z_dq (mS.room hS) ?_
          | refine z_dq (mS.things hS) ?_
        refine z_bq (fun hz => ?_) (fun hz => ?_)
        · rw [if_pos (by omega)] at h
          exact h u hA (fM_rfl u)
        · rw [if_neg (by omega)] at h
          repeat first
            | refine z_gq (by first | omega | (simp [hI_sI, hI_sF, hI_sR, hI_nw, hI_ff, hI_fl, hI_cp]; try omega)) ?_
            | refine z_iq rfl (by first | omega | (simp [hI_sI, hI_sF, hI_sR, hI_nw, hI_ff, hI_fl, hI_cp]; try omega)) (by first | omega | (simp [hI_sI, hI_sF, hI_sR, hI_nw, hI_ff, hI_fl, hI_cp]; try omega)) ?_
            | refine z_dq (mS.now hS) ?_
            | refine z_dq (mS.floats hS) ?_
            | refine z_dq (mS.sizes hS) ?_
            | refine z_dq (mS.shut hS) ?_
            | refine z_dq (mS.past hS) ?_
            | refine z_dq (mS.deeds hS) ?_
            | refine z_dq (mS.images hS) ?_
            | refine z_dq (mS.imageShut hS) ?_
            | refine z_dq (mS.kept hS) ?_
            | refine z_dq (mS.owner hS) ?_
            | refine z_dq (mS.old hS) ?_
            | refine z_dq (mS.letters hS) ?_
            | refine z_dq (mS.toldSizes hS) ?_
            | refine z_dq (mS.sort hS) ?_
            | refine z_dq (mS.room hS) ?_
            | refine z_dq (mS.things hS) ?_
          refine c_sounds hA hV ⟨a0, a1⟩ ⟨b0, b1⟩ ⟨n0, n1⟩ (by omega) (fun u' m1 m2 m3 m4 => ?_)
          have e3 : hI u' 139 2 = A.1.1 + 1 := m1.2.1.1
          repeat first
            | refine z_gq (by first | omega | (simp [hI_sI, hI_sF, hI_sR, hI_nw, hI_ff, hI_fl, hI_cp]; try omega)) ?_
            | refine z_iq rfl (by first | omega | (simp [hI_sI, hI_sF, hI_sR, hI_nw, hI_ff, hI_fl, hI_cp]; try omega)) (by first | omega | (simp [hI_sI, hI_sF, hI_sR, hI_nw, hI_ff, hI_fl, hI_cp]; try omega)) ?_
            | refine z_dq (mS.now hS) ?_
            | refine z_dq (mS.floats hS) ?_
            | refine z_dq (mS.sizes hS) ?_
            | refine z_dq (mS.shut hS) ?_
            | refine z_dq (mS.past hS) ?_
            | refine z_dq (mS.deeds hS) ?_
            | refine z_dq (mS.images hS) ?_
            | refine z_dq (mS.imageShut hS) ?_
            | refine z_dq (mS.kept hS) ?_
            | refine z_dq (mS.owner hS) ?_
            | refine z_dq (mS.old hS) ?_
            | refine z_dq (mS.letters hS) ?_
            | refine z_dq (mS.toldSizes hS) ?_
            | refine z_dq (mS.sort hS) ?_
            | refine z_dq (mS.room hS) ?_
            | refine z_dq (mS.things hS) ?_
          refine q_eq (h u' m1 (fM_of m2 (fun a => by omega) m4)) ?_
          show _ = A.1.1
          omega
      · rw [if_pos (by omega)] at h
        exact h u hA (fM_rfl u)
    · rw [if_pos (by omega)] at h
      exact h u hA (fM_rfl u)
  · rw [if_pos (by omega)] at h
    exact h u hA (fM_rfl u)
/-! the class: tone -/
theorem kd_row {s : Int} (h0 : 0 ≤ s) (h1 : s < 6) : kd (11 + s.toNat) = (21, 64) := by
  have e : s.toNat = 0 ∨ s.toNat = 1 ∨ s.toNat = 2 ∨ s.toNat = 3 ∨ s.toNat = 4 ∨ s.toNat = 5 := by omega
  rcases e with e | e | e | e | e | e <;> rw [e] <;> rfl
theorem k_isThere {d : Nat} {s i : Int} {u : aS} {Q : aQ} (hS : cS u) (hc : 0 ≤ hI u 9 2 ∧ hI u 9 2 ≤ 6) (hl : ∀ s, 0 ≤ s → s < 6 → 0 ≤ hI u 17 s ∧ hI u 17 s ≤ 64) (h1 : (0 ≤ s ∧ s < hI u 9 2) → (0 ≤ i ∧ i < hI u 17 s) → Q (some (vI 1)) u) (h0 : ¬ ((0 ≤ s ∧ s < hI u 9 2) ∧ 0 ≤ i ∧ i < hI u 17 s) → Q (some (vI 0)) u) : wpm (d + 2) M_X2_isThere [vR 9, vI s, vI i] u Q := by
  refine e_X2_isThere rfl (run [] 60 ?_)
  repeat first
    | refine z_gq (by first | omega | (simp [hI_sI, hI_sF, hI_sR, hI_nw, hI_ff, hI_fl, hI_cp]; try omega)) ?_
    | refine z_iq rfl (by first | omega | (simp [hI_sI, hI_sF, hI_sR, hI_nw, hI_ff, hI_fl, hI_cp]; try omega)) (by first | omega | (simp [hI_sI, hI_sF, hI_sR, hI_nw, hI_ff, hI_fl, hI_cp]; try omega)) ?_
    | refine z_dq (hS.lengths) ?_
  refine k_within (fun a0 a1 => ?_) (fun a0 => ?_)
  · have := hl s a0 (by omega)
    repeat first
      | refine z_gq (by first | omega | (simp [hI_sI, hI_sF, hI_sR, hI_nw, hI_ff, hI_fl, hI_cp]; try omega)) ?_
      | refine z_iq rfl (by first | omega | (simp [hI_sI, hI_sF, hI_sR, hI_nw, hI_ff, hI_fl, hI_cp]; try omega)) (by first | omega | (simp [hI_sI, hI_sF, hI_sR, hI_nw, hI_ff, hI_fl, hI_cp]; try omega)) ?_
      | refine z_dq (hS.lengths) ?_
    refine k_within (fun b0 b1 => ?_) (fun b0 => ?_)
    · exact h1 (by omega) (by omega)
    · exact h0 (by omega)
  · exact h0 (by omega)
theorem k_setFloat {d : Nat} {s i : Int} {f : UInt32} {u : aS} {Q : aQ} (hS : cS u) (hc : 0 ≤ hI u 9 2 ∧ hI u 9 2 ≤ 6) (hl : ∀ s, 0 ≤ s → s < 6 → 0 ≤ hI u 17 s ∧ hI u 17 s ≤ 64) (hs : 0 ≤ s ∧ s < hI u 9 2) (hi : 0 ≤ i ∧ i < hI u 17 s) (h : Q none (sF u (11 + s.toNat) i f)) : wpm (d + 3) M_X2_setFloat [vR 9, vI s, vI i, vF f] u Q := by
  refine e_X2_setFloat rfl (run [] 60 ?_)
  refine k_isThere hS hc hl (fun a b => ?_) (fun a => absurd ⟨hs, hi⟩ a)
  have k1 := kd_row hs.1 (show s < 6 by omega)
  have := hl s hs.1 (by omega)
  repeat first
    | refine z_gq (by first | omega | (simp [hI_sI, hI_sF, hI_sR, hI_nw, hI_ff, hI_fl, hI_cp]; try omega)) ?_
    | refine z_iq rfl (by first | omega | (simp [hI_sI, hI_sF, hI_sR, hI_nw, hI_ff, hI_fl, hI_cp]; try omega)) (by first | omega | (simp [hI_sI, hI_sF, hI_sR, hI_nw, hI_ff, hI_fl, hI_cp]; try omega)) ?_
    | refine z_dq (hS.rows) ?_
    | refine z_dq (hS.row (s := s) (by omega) (by omega)) ?_
    | refine z_iq (k1) (by first | omega | (simp [hI_sI, hI_sF, hI_sR, hI_nw, hI_ff, hI_fl, hI_cp]; try omega)) (by first | omega | (simp [hI_sI, hI_sF, hI_sR, hI_nw, hI_ff, hI_fl, hI_cp]; try omega)) ?_
  exact h
theorem k_floatAt {d : Nat} {s i : Int} {u : aS} {Q : aQ} (hS : cS u) (hc : 0 ≤ hI u 9 2 ∧ hI u 9 2 ≤ 6) (hl : ∀ s, 0 ≤ s → s < 6 → 0 ≤ hI u 17 s ∧ hI u 17 s ≤ 64) (hs : 0 ≤ s ∧ s < hI u 9 2) (hi : 0 ≤ i ∧ i < hI u 17 s) (h : Q (some (vF (hF u (11 + s.toNat) i))) u) : wpm (d + 3) M_X2_floatAt [vR 9, vI s, vI i] u Q := by
  refine e_X2_floatAt rfl (run [] 60 ?_)
  refine k_isThere hS hc hl (fun a b => ?_) (fun a => absurd ⟨hs, hi⟩ a)
  have k1 := kd_row hs.1 (show s < 6 by omega)
  have := hl s hs.1 (by omega)
  repeat first
    | refine z_gq (by first | omega | (simp [hI_sI, hI_sF, hI_sR, hI_nw, hI_ff, hI_fl, hI_cp]; try omega)) ?_
    | refine z_iq rfl (by first | omega | (simp [hI_sI, hI_sF, hI_sR, hI_nw, hI_ff, hI_fl, hI_cp]; try omega)) (by first | omega | (simp [hI_sI, hI_sF, hI_sR, hI_nw, hI_ff, hI_fl, hI_cp]; try omega)) ?_
    | refine z_dq (hS.rows) ?_
    | refine z_dq (hS.row (s := s) (by omega) (by omega)) ?_
    | refine z_iq (k1) (by first | omega | (simp [hI_sI, hI_sF, hI_sR, hI_nw, hI_ff, hI_fl, hI_cp]; try omega)) (by first | omega | (simp [hI_sI, hI_sF, hI_sR, hI_nw, hI_ff, hI_fl, hI_cp]; try omega)) ?_
  exact h
theorem w_addTone {d : Nat} {Q : aQ} {a b n t : Int} (ha : 0 ≤ a ∧ a ≤ 200) (hb : 0 ≤ b ∧ b ≤ 200) (hn : n ≤ 64) {c s : Nat} : ∀ (m : Nat) (i : Int) (u : aS), cS u → (0 ≤ hI u 9 2 ∧ hI u 9 2 ≤ 6) → (∀ s, 0 ≤ s → s < 6 → 0 ≤ hI u 17 s ∧ hI u 17 s ≤ 64) → (0 ≤ t ∧ t < hI u 9 2) → hI u 17 t = n → i + m = n → 0 ≤ i → Q (some (vI t)) (ff u (11 + t.toNat) i n (toneF a b)) → wp (wpm (d + 3)) cd_X2_addTone Q 10 [vR 9, vI a, vI b, vI n, vI t, vI i] [] u c s
  | 0, i, u, hS, hc, hl, ht, he, h1, h2, h => by
    refine run [(10, [])] 60 ?_
    refine z_bq (fun hl => ?_) (fun hl => ?_)
    · omega
    · rw [ff_end u _ _ (by omega)] at h
      exact h
  | m + 1, i, u, hS, hc, hl, ht, he, h1, h2, h => by
    have hm := mul_b ha.1 ha.2 h2 (show i ≤ 64 by omega)
    have hm2 := tone_r ha.1 ha.2 h2 (show i ≤ 64 by omega) hb.1 hb.2
    refine run [(10, [])] 60 ?_
    refine z_bq (fun hi => ?_) (fun hi => by omega)
    repeat first
      | refine z_gq (by first | omega | (simp [hI_sI, hI_sF, hI_sR, hI_nw, hI_ff, hI_fl, hI_cp]; try omega)) ?_
      | refine z_iq rfl (by first | omega | (simp [hI_sI, hI_sF, hI_sR, hI_nw, hI_ff, hI_fl, hI_cp]; try omega)) (by first | omega | (simp [hI_sI, hI_sF, hI_sR, hI_nw, hI_ff, hI_fl, hI_cp]; try omega)) ?_
    refine k_setFloat hS hc hl ht (by omega) ?_
    repeat first
      | refine z_gq (by first | omega | (simp [hI_sI, hI_sF, hI_sR, hI_nw, hI_ff, hI_fl, hI_cp]; try omega)) ?_
      | refine z_iq rfl (by first | omega | (simp [hI_sI, hI_sF, hI_sR, hI_nw, hI_ff, hI_fl, hI_cp]; try omega)) (by first | omega | (simp [hI_sI, hI_sF, hI_sR, hI_nw, hI_ff, hI_fl, hI_cp]; try omega)) ?_
    refine w_addTone ha hb hn m (i + 1) _ hS hc hl ht he (by omega) (by omega) ?_
    rw [← ff_step u _ _ (by omega)] at h
    exact h
theorem cSo_add {u u' : aS} {K : So} {n : Int} {g : Int → UInt32} (h : cSo u K) (h0 : 0 ≤ K.1) (h1 : hI u' 9 2 = K.1 + 1) (h2 : ∀ s, hI u' 17 s = if s = K.1 then n else hI u 17 s) (h3 : ∀ s i, 0 ≤ s → s < K.1 → hF u' (11 + s.toNat) i = hF u (11 + s.toNat) i) (h4 : ∀ i, 0 ≤ i → i < n → hF u' (11 + K.1.toNat) i = g i) : cSo u' (addS K n g) := by
  refine ⟨h1, fun s s0 s1 => ?_, fun s i s0 s1 i0 i1 i2 => ?_⟩
  · rw [h2]
    show _ = if s = K.1 then n else K.2.1 s
    split
    · rfl
    · exact h.2.1 s s0 s1
  · have i2' : s < K.1 + 1 := i2
    have i1' : i < if s = K.1 then n else K.2.1 s := i1
    show _ = if s = K.1 then g i else K.2.2 s i
    by_cases e : s = K.1
    · rw [if_pos e] at i1' ⊢
      rw [e]
      exact h4 i i0 i1'
    · rw [if_neg e] at i1' ⊢
      rw [h3 s i s0 (by omega)]
      exact h.2.2 s i s0 s1 i0 i1' (by omega)
theorem k_addRow {d : Nat} {n : Int} {u : aS} {Q : aQ} {K : So} (hS : cS u) (hK : cSo u K) (hV : vSz K) (hn : 1 ≤ n ∧ n ≤ 64) (h6 : ¬ K.1 = 6) (h : Q (some (vI K.1)) (sI (sI u 17 K.1 n) 9 2 (K.1 + 1))) : wpm (d + 2) M_X2_addRow [vR 9, vI n] u Q := by
  have e := hK.1
  have v := hV.1
  rw [← e] at h
  refine e_X2_addRow rfl (run [] 60 ?_)
  refine z_bq (fun hl => ?_) (fun hl => by omega)
  refine k_within (fun a0 a1 => ?_) (fun a0 => by omega)
  repeat first
    | refine z_gq (by first | omega | (simp [hI_sI, hI_sF, hI_sR, hI_nw, hI_ff, hI_fl, hI_cp]; try omega)) ?_
    | refine z_iq rfl (by first | omega | (simp [hI_sI, hI_sF, hI_sR, hI_nw, hI_ff, hI_fl, hI_cp]; try omega)) (by first | omega | (simp [hI_sI, hI_sF, hI_sR, hI_nw, hI_ff, hI_fl, hI_cp]; try omega)) ?_
    | refine z_dq (hS.lengths) ?_
  exact h
theorem k_addTone {d : Nat} {a b n : Int} {u : aS} {Q : aQ} {A : Al} (hA : cA u A) (hV : vSz A.1) (ha : 0 ≤ a ∧ a ≤ 200) (hb : 0 ≤ b ∧ b ≤ 200) (hn : 1 ≤ n ∧ n ≤ 64) (h6 : ¬ A.1.1 = 6) (h : ∀ u', cA u' (addS A.1 n (toneF a b), A.2) → fA (fun a => a = 9 ∨ (11 ≤ a ∧ a ≤ 17)) u u' → Q (some (vI A.1.1)) u') : wpm (d + 4) M_X2_addTone [vR 9, vI a, vI b, vI n] u Q := by
  have hS := hA.1
  have hK := hA.2.2.1
  have e := hK.1
  have v := hV.1
  refine e_X2_addTone rfl (run [(10, [])] 60 ?_)
  refine k_addRow hS hK hV hn h6 ?_
  have hf : fA (fun a => a = 9 ∨ (11 ≤ a ∧ a ≤ 17)) u (ff (sI (sI u 17 A.1.1 n) 9 2 (A.1.1 + 1)) (11 + A.1.1.toNat) 0 n (toneF a b)) := fA_tr (fA_sI u _ _ (by omega)) (fA_tr (fA_sI _ _ _ (by omega)) (fA_ff _ _ _ _ (by omega)))
  refine w_addTone ha hb hn.2 n.toNat 0 _ (cS_h (fun _ _ _ => rfl) hS) ?_ (fun s s0 s1 => ?_) ?_ ?_ (by omega) (by omega) (h _ (cA_so hA hf (fun i => rfl) (cSo_add hK v.1 ?_ (fun s => ?_) (fun s i s0 s1 => ?_) (fun i i0 i1 => ?_))) hf)
  · simp [hI_sI]
    omega
  · have g := (hV.2 s s0 s1).1
    rw [← hK.2.1 s s0 s1] at g
    simp only [hI_sI]
    rw [if_neg (by omega)]
    split <;> omega
  · simp [hI_sI]
    omega
  · simp [hI_sI]
  · simp [hI_ff, hI_sI]
  · simp [hI_ff, hI_sI]
  · show (if 11 + s.toNat = 11 + A.1.1.toNat ∧ 0 ≤ i ∧ i < n then _ else hF u (11 + s.toNat) i) = _
    rw [if_neg (by omega)]
  · show (if 11 + A.1.1.toNat = 11 + A.1.1.toNat ∧ 0 ≤ i ∧ i < n then toneF a b i else _) = _
    rw [if_pos ⟨rfl, i0, i1⟩]
theorem k_tone {d : Nat} {a b n : Int} {u : aS} {Q : aQ} {A : Al} (hA : cA u A) (hV : vSz A.1) (h : ∀ u', cA u' ((oTone A.1 a b n).2, A.2) → fA (fun a => a = 9 ∨ (11 ≤ a ∧ a ≤ 17)) u u' → Q (some (vI (oTone A.1 a b n).1)) u') : wpm (d + 5) M_X7_tone [vR 8, vI a, vI b, vI n] u Q := by
  have hS := hA.1
  have hK := hA.2.2.1
  have e := hK.1
  have v := hV.1
  unfold oTone at h
  refine e_X7_tone rfl (run [] 60 ?_)
  refine k_within (fun a0 a1 => ?_) (fun a0 => ?_)
  · refine k_within (fun b0 b1 => ?_) (fun b0 => ?_)
    · refine k_within (fun n0 n1 => ?_) (fun n0 => ?_)
      · rw [if_neg (by omega)] at h
        repeat first
          | refine z_gq (by first | omega | (simp [hI_sI, hI_sF, hI_sR, hI_nw, hI_ff, hI_fl, hI_cp]; try omega)) ?_
          | refine z_iq rfl (by first | omega | (simp [hI_sI, hI_sF, hI_sR, hI_nw, hI_ff, hI_fl, hI_cp]; try omega)) (by first | omega | (simp [hI_sI, hI_sF, hI_sR, hI_nw, hI_ff, hI_fl, hI_cp]; try omega)) ?_
          | refine z_dq (hS.sounds) ?_
        refine z_bq (fun hz => ?_) (fun hz => ?_)
        · rw [if_neg (by omega)] at h
          repeat first
            | refine z_gq (by first | omega | (simp [hI_sI, hI_sF, hI_sR, hI_nw, hI_ff, hI_fl, hI_cp]; try omega)) ?_
            | refine z_iq rfl (by first | omega | (simp [hI_sI, hI_sF, hI_sR, hI_nw, hI_ff, hI_fl, hI_cp]; try omega)) (by first | omega | (simp [hI_sI, hI_sF, hI_sR, hI_nw, hI_ff, hI_fl, hI_cp]; try omega)) ?_
            | refine z_dq (hS.sounds) ?_
          refine k_addTone hA hV ⟨a0, a1⟩ ⟨b0, b1⟩ ⟨n0, n1⟩ (by omega) (fun u' m1 m2 => ?_)
          exact h u' m1 m2
        · rw [if_pos (by omega)] at h
          exact h u hA (fA_rfl _ u)
      · rw [if_pos (by omega)] at h
        exact h u hA (fA_rfl _ u)
    · rw [if_pos (by omega)] at h
      exact h u hA (fA_rfl _ u)
  · rw [if_pos (by omega)] at h
    exact h u hA (fA_rfl _ u)
