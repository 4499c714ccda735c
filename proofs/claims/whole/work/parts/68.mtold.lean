/-! the model reads clauses -/
theorem flt_p {p b : Int} (h : 0 ≤ p) : flt p b = p := by
  unfold flt
  rw [if_neg (by omega)]
theorem flt_n {p b : Int} (h : p < 0) : flt p b = b := by
  unfold flt
  rw [if_pos h]
theorem c_numF {d : Nat} {X : Tx} {t : Tok} {T : Told} {p lo hi : Int} {u0 u : aS} {Q : aQ} (hV : vTx X) (hP : mP u0 u X t T p) (hp : 0 ≤ p) (h : ∀ u', mP u0 u' X t T p → Q (some (vI lo)) u') : wpm (d + 3) M_X8_number [vR 139, vI lo, vI hi] u Q :=
  c_numP hV hP (by omega) (fun a => by omega) (fun _ u' m => h u' (by rw [flt_p hp] at m; exact m))
theorem c_numG {d : Nat} {X : Tx} {t : Tok} {T : Told} {lo hi : Int} {u0 u : aS} {Q : aQ} (hV : vTx X) (hP : mP u0 u X t T (-1)) (h1 : isN X t lo hi → ∀ u', mP u0 u' X (nt X t) T (-1) → Q (some (vI (vl X t))) u') (h0 : ¬ isN X t lo hi → ∀ u', mP u0 u' X t T t.1 → Q (some (vI lo)) u') : wpm (d + 3) M_X8_number [vR 139, vI lo, vI hi] u Q :=
  c_numP hV hP (by omega) (fun _ g => h1 g) (fun g u' m => h0 (fun z => g ⟨by omega, z⟩) u' (by rw [flt_n (by omega)] at m; exact m))
