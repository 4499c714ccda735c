/-! the model reads: the state -/
/-- of the model only the token, the place and what is told have changed -/
def fW (u u' : aS) : Prop := (∀ a i, ¬ (a = 139 ∧ 14 ≤ i ∧ i ≤ 20) → ¬ a = 152 → hI u' a i = hI u a i) ∧ (∀ a i, hF u' a i = hF u a i ∧ hR u' a i = hR u a i) ∧ nx u' = nx u
theorem fW_rfl (u : aS) : fW u u := ⟨fun _ _ _ _ => rfl, fun _ _ => ⟨rfl, rfl⟩, rfl⟩
theorem fW_tr {u v w : aS} (h1 : fW u v) (h2 : fW v w) : fW u w := ⟨fun a i h k => (h2.1 a i h k).trans (h1.1 a i h k), fun a i => ⟨(h2.2.1 a i).1.trans (h1.2.1 a i).1, (h2.2.1 a i).2.trans (h1.2.1 a i).2⟩, h2.2.2.trans h1.2.2⟩
theorem fW_P {u u' : aS} (h : fP u u') : fW u u' := ⟨fun a i hi _ => h.1 a i (by omega), h.2⟩
theorem fW_S {u u' : aS} (h : fW u u') (hS : mS u) : mS u' := mS_f (fun i => (h.2.1 139 i).2) hS
theorem fW_X {u u' : aS} {X : Tx} (h : fW u u') (hK : mTx u X) : mTx u' X := mTx_f (h.1 139 13 (by omega) (by omega)) (fun i => h.1 151 i (by omega) (by omega)) hK
theorem fW_M {u u' : aS} (h : fW u u') : fM u u' := ⟨fun a i ha => ⟨h.1 a i (by omega) (by omega), h.2.1 a i⟩, h.2.2⟩
def mP (u0 u : aS) (X : Tx) (t : Tok) (T : Told) (p : Int) : Prop := mS u ∧ mTx u X ∧ vTok X t ∧ mTok u X t ∧ hI u 139 20 = T.1 ∧ (∀ s, 0 ≤ s → s < 6 → hI u 152 s = T.2 s) ∧ hI u 139 18 = p ∧ fW u0 u
theorem mP_P {u0 u u' : aS} {X : Tx} {t t' : Tok} {T : Told} {p p' : Int} (h : mP u0 u X t T p) (hf : fP u u') (hv : vTok X t') (ht : mTok u' X t') (hp : hI u' 139 18 = p') : mP u0 u' X t' T p' := by
  obtain ⟨p1, p2, p3, p4, p5, p6, p7, p8⟩ := h
  exact ⟨fP_S hf p1, fP_X hf p2, hv, ht, (hf.1 139 20 (by omega)).trans p5, fun s s0 s1 => (hf.1 152 s (by omega)).trans (p6 s s0 s1), hp, fW_tr p8 (fW_P hf)⟩
theorem c_nextP {d : Nat} {X : Tx} {t : Tok} {T : Told} {p : Int} {u0 u : aS} {Q : aQ} (hV : vTx X) (hP : mP u0 u X t T p) (h : ∀ u', mP u0 u' X (nt X t) T p → Q none u') : wpm (d + 2) M_X8_next [vR 139] u Q := by
  have tb := hP.2.2.1.1
  exact c_next hP.1 hP.2.1 hV hP.2.2.2.1.1 (by omega) (by omega) (fun u' m1 m2 => h u' (mP_P hP (fP_N m1) (vTok_t hP.2.2.1) m2 ((m1.1 139 18 (by omega)).trans hP.2.2.2.2.2.2.1)))
theorem c_faultP {d : Nat} {X : Tx} {t : Tok} {T : Told} {p : Int} {u0 u : aS} {Q : aQ} (hP : mP u0 u X t T p) (h : ∀ u', mP u0 u' X t T (flt p t.1) → Q none u') : wpm (d + 1) M_X8_faults [vR 139] u Q := c_faults hP.2.2.2.1 hP.2.2.2.2.2.2.1 (fun u' m1 m2 m3 => h u' (mP_P hP m1 hP.2.2.1 m2 m3))
theorem c_numP {d : Nat} {X : Tx} {t : Tok} {T : Told} {p lo hi : Int} {u0 u : aS} {Q : aQ} (hV : vTx X) (hP : mP u0 u X t T p) (hp : -1 ≤ p) (h1 : p < 0 → isN X t lo hi → ∀ u', mP u0 u' X (nt X t) T p → Q (some (vI (vl X t))) u') (h0 : ¬ (p < 0 ∧ isN X t lo hi) → ∀ u', mP u0 u' X t T (flt p t.1) → Q (some (vI lo)) u') : wpm (d + 3) M_X8_number [vR 139, vI lo, vI hi] u Q :=
  c_number hP.1 hP.2.1 hV hP.2.2.1 hP.2.2.2.1 hP.2.2.2.2.2.2.1 hp (fun a b u' m1 m2 m3 => h1 a b u' (mP_P hP m1 (vTok_t hP.2.2.1) m2 m3)) (fun a u' m1 m2 m3 => h0 a u' (mP_P hP m1 hP.2.2.1 m2 m3))
