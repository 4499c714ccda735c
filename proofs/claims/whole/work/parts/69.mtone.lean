/-! the model reads a tone -/
theorem mP.told {u0 u : aS} {X : Tx} {t : Tok} {T : Told} {p : Int} (h : mP u0 u X t T p) : hI u 139 20 = T.1 := h.2.2.2.2.1
theorem mP.size {u0 u : aS} {X : Tx} {t : Tok} {T : Told} {p : Int} (h : mP u0 u X t T p) {s : Int} (h0 : 0 ≤ s) (h1 : s < 6) : hI u 152 s = T.2 s := h.2.2.2.2.2.1 s h0 h1
theorem mP.place {u0 u : aS} {X : Tx} {t : Tok} {T : Told} {p : Int} (h : mP u0 u X t T p) : hI u 139 18 = p := h.2.2.2.2.2.2.1
theorem mP_o {u0 u : aS} {X : Tx} {t : Tok} {T : Told} {p v : Int} (h : mP u0 u X t T p) : mP u0 (sI (sI u 152 (hI u 139 20) v) 139 20 (hI (sI u 152 (hI u 139 20) v) 139 20 + 1)) X t (T.1 + 1, upF T.2 T.1 v) p := by
  obtain ⟨p1, p2, p3, p4, p5, p6, p7, p8⟩ := h
  have e0 : hI (sI u 152 (hI u 139 20) v) 139 20 = T.1 := by
    rw [hI_sI, if_neg (by omega)]
    exact p5
  rw [e0, p5]
  have n9 : ∀ i, ¬ i = 20 → hI (sI (sI u 152 T.1 v) 139 20 (T.1 + 1)) 139 i = hI u 139 i := fun i hi => by rw [hI_sI, if_neg (by omega), hI_sI, if_neg (by omega)]
  have f0 : fW u (sI (sI u 152 T.1 v) 139 20 (T.1 + 1)) := ⟨fun a i ha hb => by rw [hI_sI, if_neg (by omega), hI_sI, if_neg (by omega)], fun _ _ => ⟨rfl, rfl⟩, rfl⟩
  refine ⟨fW_S f0 p1, fW_X f0 p2, p3, ⟨(n9 14 (by omega)).trans p4.1, (n9 15 (by omega)).trans p4.2.1, (n9 16 (by omega)).trans p4.2.2.1, (n9 17 (by omega)).trans p4.2.2.2⟩, ?_, fun s s0 s1 => ?_, (n9 18 (by omega)).trans p7, fW_tr p8 f0⟩
  · rw [hI_sI, if_pos ⟨rfl, rfl⟩]
  · rw [hI_sI, if_neg (by omega), hI_sI]
    unfold upF
    by_cases e : s = T.1
    · rw [if_pos ⟨rfl, e⟩]
      exact (if_pos e).symm
    · rw [if_neg (fun z => e z.2), p6 s s0 s1]
      exact (if_neg e).symm
