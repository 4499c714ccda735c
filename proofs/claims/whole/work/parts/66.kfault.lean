/-! the class's fault -/
theorem cA_R {u u' : aS} {A : Al} (h : fR u u') (hA : cA u A) : cA u' A := by
  obtain ⟨h1, h2, h3, h4, h5, h6, h7⟩ := hA
  refine ⟨fR_S h h1, Nat.le_trans h2 h.1.2, fR_So h h3, fR_X h h4, cRk_f h.1 (fun a => by omega) h5, cTr_f h.1 (fun a => by omega) (fun b b0 b1 => by omega) h6, cKp_f h.1 (by omega) (fun j k j0 k0 => ⟨by omega, by omega, by omega⟩) (fun b b0 b1 => by omega) h7⟩
/-- what the text says: where it is wrong (or -1), how many clauses -/
def pTx (X : Tx) (K : So) : Int × Int := pAll X 24 0 (nxt X 0) (K.1, K.2.1)
theorem k_fault {d : Nat} {u : aS} {Q : aQ} {A : Al} (hA : cA u A) (hV : vTx A.2.1) (hT : vTd (A.1.1, A.1.2.1)) (h : ∀ u', cA u' A → fR u u' → Q (some (vI (pTx A.2.1 A.1).1)) u') : wpm (d + 9) M_X7_fault [vR 8] u Q := by
  have hS := hA.1
  refine e_X7_fault rfl (run [] 60 ?_)
  repeat first
    | refine z_gq (by first | omega | (simp [hI_sI, hI_sF, hI_sR, hI_nw, hI_ff, hI_fl, hI_cp]; try omega)) ?_
    | refine z_iq rfl (by first | omega | (simp [hI_sI, hI_sF, hI_sR, hI_nw, hI_ff, hI_fl, hI_cp]; try omega)) (by first | omega | (simp [hI_sI, hI_sF, hI_sR, hI_nw, hI_ff, hI_fl, hI_cp]; try omega)) ?_
    | refine z_dq (hS.reader) ?_
    | refine z_dq (hS.sounds) ?_
  refine k_read hS hA.2.2.2.1 hA.2.2.1 hV hT (fun u' m1 m2 m3 => ?_)
  exact h u' (cA_R m1 hA) m1
