theorem st_getI {own : String} {bytes : ByteArray} {ret : Option FieldType} {nm : String} {nL lv pc n : Nat} {k f idx : Nat} {C : String} {T : u_T} {N : Nat} (hk : k < 9) (hc : vwC[k]? = some (C, T, N)) (hf : f < N) (hd : decode bytes pc = .ok (.getfield idx, 3)) (hn : pc + 3 = n) (hw : Cond.fieldLink own idx (T f).1 (T f).2.1 (T f).2.2.1 ∈ lw_g) (hty : tyk k f = .int ∨ tyk k f = .boolean) : SOK own bytes ret nm nL lv pc (x_getI k f n) := by
  intro g p l e R s m args below meth c call Q n0 hC hO P' hP L st u cc ss hq H ls locs cells slots hRp hl hoL hoS hlo h1 h2 h0
  obtain ⟨hx, hb, hr, hml, hown, hts, hlk, hnm, hK, hfr, hlw⟩ := hC
  subst hn
  unfold x_getI at hq
  split at hq
  · rename_i a st'
    obtain ⟨oa, oS⟩ := aok_cons.mp hoS
    obtain ⟨hka, hq⟩ := z_ko hq
    have hkk := hP _ _ _ _ _ _ hq H ls locs cells slots hRp hl hoL (aok_cons.mpr ⟨hRp.2.2.2.1 a f, oS⟩) hlo h1 h2 h0
    refine aget hx hb hown hts hK hk hc hf hRp hka (oa a rfl) (Or.inl (hts _ hw)) hd ?_
    rcases hty with h | h <;> rw [h] <;> exact hkk
  · exact hq.elim
theorem st_getR {own : String} {bytes : ByteArray} {ret : Option FieldType} {nm : String} {nL lv pc n : Nat} {k f idx : Nat} {C : String} {T : u_T} {N : Nat} (hk : k < 9) (hc : vwC[k]? = some (C, T, N)) (hf : f < N) (hd : decode bytes pc = .ok (.getfield idx, 3)) (hn : pc + 3 = n) (hw : Cond.fieldLink own idx (T f).1 (T f).2.1 (T f).2.2.1 ∈ lw_g) (hty : rty (tyk k f)) : SOK own bytes ret nm nL lv pc (x_getR k f n) := by
  intro g p l e R s m args below meth c call Q n0 hC hO P' hP L st u cc ss hq H ls locs cells slots hRp hl hoL hoS hlo h1 h2 h0
  obtain ⟨hx, hb, hr, hml, hown, hts, hlk, hnm, hK, hfr, hlw⟩ := hC
  subst hn
  unfold x_getR at hq
  split at hq
  · rename_i a st'
    obtain ⟨oa, oS⟩ := aok_cons.mp hoS
    obtain ⟨hka, r, hrr, hq⟩ := z_ko hq
    subst hrr
    have hkk := hP _ _ _ _ _ _ hq H ls locs cells slots hRp hl hoL (aok_cons.mpr ⟨fun b hb => hRp.2.2.2.2.1 a f b hb, oS⟩) hlo h1 h2 h0
    refine aget hx hb hown hts hK hk hc hf hRp hka (oa a rfl) (Or.inl (hts _ hw)) hd ?_
    rw [fv_ref hty]
    exact hkk
  · exact hq.elim
theorem st_getIN {own : String} {bytes : ByteArray} {ret : Option FieldType} {nm : String} {nL lv pc n : Nat} {k f idx : Nat} {C : String} {T : u_T} {N : Nat} (hk : k < 9) (hc : vwC[k]? = some (C, T, N)) (hf : f < N) (hd : decode bytes pc = .ok (.getfield idx, 3)) (hn : pc + 3 = n) {host : String} (hw : Cond.fieldLinkNest own idx (T f).1 (T f).2.1 (T f).2.2.1 host ∈ lw_tbl) (hty : tyk k f = .int ∨ tyk k f = .boolean) : SOK own bytes ret nm nL lv pc (x_getI k f n) := by
  intro g p l e R s m args below meth c call Q n0 hC hO P' hP L st u cc ss hq H ls locs cells slots hRp hl hoL hoS hlo h1 h2 h0
  obtain ⟨hx, hb, hr, hml, hown, hts, hlk, hnm, hK, hfr, hlw⟩ := hC
  subst hn
  unfold x_getI at hq
  split at hq
  · rename_i a st'
    obtain ⟨oa, oS⟩ := aok_cons.mp hoS
    obtain ⟨hka, hq⟩ := z_ko hq
    have hkk := hP _ _ _ _ _ _ hq H ls locs cells slots hRp hl hoL (aok_cons.mpr ⟨hRp.2.2.2.1 a f, oS⟩) hlo h1 h2 h0
    refine aget hx hb hown hts hK hk hc hf hRp hka (oa a rfl) (Or.inr ⟨host, va_Nw.use rfl (hK.2.1 _ hw rfl)⟩) hd ?_
    rcases hty with h | h <;> rw [h] <;> exact hkk
  · exact hq.elim
theorem st_getRN {own : String} {bytes : ByteArray} {ret : Option FieldType} {nm : String} {nL lv pc n : Nat} {k f idx : Nat} {C : String} {T : u_T} {N : Nat} (hk : k < 9) (hc : vwC[k]? = some (C, T, N)) (hf : f < N) (hd : decode bytes pc = .ok (.getfield idx, 3)) (hn : pc + 3 = n) {host : String} (hw : Cond.fieldLinkNest own idx (T f).1 (T f).2.1 (T f).2.2.1 host ∈ lw_tbl) (hty : rty (tyk k f)) : SOK own bytes ret nm nL lv pc (x_getR k f n) := by
  intro g p l e R s m args below meth c call Q n0 hC hO P' hP L st u cc ss hq H ls locs cells slots hRp hl hoL hoS hlo h1 h2 h0
  obtain ⟨hx, hb, hr, hml, hown, hts, hlk, hnm, hK, hfr, hlw⟩ := hC
  subst hn
  unfold x_getR at hq
  split at hq
  · rename_i a st'
    obtain ⟨oa, oS⟩ := aok_cons.mp hoS
    obtain ⟨hka, r, hrr, hq⟩ := z_ko hq
    subst hrr
    have hkk := hP _ _ _ _ _ _ hq H ls locs cells slots hRp hl hoL (aok_cons.mpr ⟨fun b hb => hRp.2.2.2.2.1 a f b hb, oS⟩) hlo h1 h2 h0
    refine aget hx hb hown hts hK hk hc hf hRp hka (oa a rfl) (Or.inr ⟨host, va_Nw.use rfl (hK.2.1 _ hw rfl)⟩) hd ?_
    rw [fv_ref hty]
    exact hkk
  · exact hq.elim
theorem st_putI {own : String} {bytes : ByteArray} {ret : Option FieldType} {nm : String} {nL lv pc n : Nat} {k f idx : Nat} {C : String} {T : u_T} {N : Nat} (hk : k < 9) (hc : vwC[k]? = some (C, T, N)) (hf : f < N) (hd : decode bytes pc = .ok (.putfield idx, 3)) (hn : pc + 3 = n) (hw : Cond.fieldLink own idx (T f).1 (T f).2.1 (T f).2.2.1 ∈ lw_g) (hfin : (T f).2.2.2 = false) (hty : tyk k f = .int) : SOK own bytes ret nm nL lv pc (x_putI k f n) := by
  intro g p l e R s m args below meth c call Q n0 hC hO P' hP L st u cc ss hq H ls locs cells slots hRp hl hoL hoS hlo h1 h2 h0
  obtain ⟨hx, hb, hr, hml, hown, hts, hlk, hnm, hK, hfr, hlw⟩ := hC
  subst hn
  unfold x_putI at hq
  split at hq
  · rename_i x a st'
    obtain ⟨ox, oS⟩ := aok_cons.mp hoS
    obtain ⟨oa, oS⟩ := aok_cons.mp oS
    obtain ⟨hka, hq⟩ := z_ko hq
    have h8 : 8 ≤ a := kd_8 hka (by omega)
    refine aput hx hb hown hts hK hk hc hf hRp hka (oa a rfl) (Or.inl ⟨Or.inl (hts _ hw), hfin⟩) (v := .int (Int32.ofInt x)) (by rw [hty]; exact vp_nar_int _) (by rw [hty]; rfl) hd (fun H' i z o hob => ?_)
    have hrep : aRep g (sI u a f x) H' := aRep_sI hRp h8 (oa a rfl) ox z o (ck_obj' hka hk (hob.to (fun j hj => ?_)))
    · exact hP _ _ _ _ _ _ hq H' ls _ cells slots hrep hl hoL oS (locs_in hlo h8) h1 h2 h0
    · unfold updV
      by_cases ej : j = f
      · subst ej
        rw [if_pos rfl, fv_sI (Or.inl hty), if_pos rfl]
      · rw [if_neg ej, fv_sI' (by omega)]
  · exact hq.elim
theorem st_putZ {own : String} {bytes : ByteArray} {ret : Option FieldType} {nm : String} {nL lv pc n : Nat} {k f idx : Nat} {C : String} {T : u_T} {N : Nat} (hk : k < 9) (hc : vwC[k]? = some (C, T, N)) (hf : f < N) (hd : decode bytes pc = .ok (.putfield idx, 3)) (hn : pc + 3 = n) (hw : Cond.fieldLink own idx (T f).1 (T f).2.1 (T f).2.2.1 ∈ lw_g) (hfin : (T f).2.2.2 = false) (hty : tyk k f = .boolean) : SOK own bytes ret nm nL lv pc (x_putZ k f n) := by
  intro g p l e R s m args below meth c call Q n0 hC hO P' hP L st u cc ss hq H ls locs cells slots hRp hl hoL hoS hlo h1 h2 h0
  obtain ⟨hx, hb, hr, hml, hown, hts, hlk, hnm, hK, hfr, hlw⟩ := hC
  subst hn
  unfold x_putZ at hq
  split at hq
  · rename_i x a st'
    obtain ⟨ox, oS⟩ := aok_cons.mp hoS
    obtain ⟨oa, oS⟩ := aok_cons.mp oS
    obtain ⟨hka, hq⟩ := z_ko hq
    have h8 : 8 ≤ a := kd_8 hka (by omega)
    obtain ⟨h01, hq⟩ := z_0o hq
    refine aput hx hb hown hts hK hk hc hf hRp hka (oa a rfl) (Or.inl ⟨Or.inl (hts _ hw), hfin⟩) (v := .int (Int32.ofInt x)) (by rw [hty]; rcases h01 with h | h <;> subst h <;> rfl) (by rw [hty]; rcases h01 with h | h <;> subst h <;> rfl) hd (fun H' i z o hob => ?_)
    have hrep : aRep g (sI u a f x) H' := aRep_sI hRp h8 (oa a rfl) ox z o (ck_obj' hka hk (hob.to (fun j hj => ?_)))
    · exact hP _ _ _ _ _ _ hq H' ls _ cells slots hrep hl hoL oS (locs_in hlo h8) h1 h2 h0
    · unfold updV
      by_cases ej : j = f
      · subst ej
        rw [if_pos rfl, fv_sI (Or.inr hty), if_pos rfl]
      · rw [if_neg ej, fv_sI' (by omega)]
  · exact hq.elim
theorem st_putR {own : String} {bytes : ByteArray} {ret : Option FieldType} {nm : String} {nL lv pc n : Nat} {k f idx : Nat} {C : String} {T : u_T} {N : Nat} (hk : k < 9) (hc : vwC[k]? = some (C, T, N)) (hf : f < N) (hd : decode bytes pc = .ok (.putfield idx, 3)) (hn : pc + 3 = n) (hw : Cond.fieldLink own idx (T f).1 (T f).2.1 (T f).2.2.1 ∈ lw_g) (hfin : (T f).2.2.2 = false) (hty : rty (tyk k f)) : SOK own bytes ret nm nL lv pc (x_putR k f n) := by
  intro g p l e R s m args below meth c call Q n0 hC hO P' hP L st u cc ss hq H ls locs cells slots hRp hl hoL hoS hlo h1 h2 h0
  obtain ⟨hx, hb, hr, hml, hown, hts, hlk, hnm, hK, hfr, hlw⟩ := hC
  subst hn
  unfold x_putR at hq
  split at hq
  · rename_i x a st'
    obtain ⟨ox, oS⟩ := aok_cons.mp hoS
    obtain ⟨oa, oS⟩ := aok_cons.mp oS
    obtain ⟨hka, hq⟩ := z_ko hq
    have h8 : 8 ≤ a := kd_8 hka (by omega)
    refine aput hx hb hown hts hK hk hc hf hRp hka (oa a rfl) (Or.inl ⟨Or.inl (hts _ hw), hfin⟩) (v := ar g x) (ar_fits hty).1 (ar_fits hty).2 hd (fun H' i z o hob => ?_)
    have hrep : aRep g (sR u a f x) H' := aRep_sR hRp h8 (oa a rfl) ox z o (ck_obj' hka hk (hob.to (fun j hj => ?_)))
    · exact hP _ _ _ _ _ _ hq H' ls _ cells slots hrep hl hoL oS (locs_in hlo h8) h1 h2 h0
    · unfold updV
      by_cases ej : j = f
      · subst ej
        rw [if_pos rfl, fv_sR hty, if_pos rfl]
      · rw [if_neg ej, fv_sR' (by omega)]
  · exact hq.elim
theorem st_putIN {own : String} {bytes : ByteArray} {ret : Option FieldType} {nm : String} {nL lv pc n : Nat} {k f idx : Nat} {C : String} {T : u_T} {N : Nat} (hk : k < 9) (hc : vwC[k]? = some (C, T, N)) (hf : f < N) (hd : decode bytes pc = .ok (.putfield idx, 3)) (hn : pc + 3 = n) {host : String} (hw : Cond.fieldLinkNest own idx (T f).1 (T f).2.1 (T f).2.2.1 host ∈ lw_tbl) (hfin : (T f).2.2.2 = false) (hty : tyk k f = .int) : SOK own bytes ret nm nL lv pc (x_putI k f n) := by
  intro g p l e R s m args below meth c call Q n0 hC hO P' hP L st u cc ss hq H ls locs cells slots hRp hl hoL hoS hlo h1 h2 h0
  obtain ⟨hx, hb, hr, hml, hown, hts, hlk, hnm, hK, hfr, hlw⟩ := hC
  subst hn
  unfold x_putI at hq
  split at hq
  · rename_i x a st'
    obtain ⟨ox, oS⟩ := aok_cons.mp hoS
    obtain ⟨oa, oS⟩ := aok_cons.mp oS
    obtain ⟨hka, hq⟩ := z_ko hq
    have h8 : 8 ≤ a := kd_8 hka (by omega)
    refine aput hx hb hown hts hK hk hc hf hRp hka (oa a rfl) (Or.inl ⟨Or.inr ⟨host, va_Nw.use rfl (hK.2.1 _ hw rfl)⟩, hfin⟩) (v := .int (Int32.ofInt x)) (by rw [hty]; exact vp_nar_int _) (by rw [hty]; rfl) hd (fun H' i z o hob => ?_)
    have hrep : aRep g (sI u a f x) H' := aRep_sI hRp h8 (oa a rfl) ox z o (ck_obj' hka hk (hob.to (fun j hj => ?_)))
    · exact hP _ _ _ _ _ _ hq H' ls _ cells slots hrep hl hoL oS (locs_in hlo h8) h1 h2 h0
    · unfold updV
      by_cases ej : j = f
      · subst ej
        rw [if_pos rfl, fv_sI (Or.inl hty), if_pos rfl]
      · rw [if_neg ej, fv_sI' (by omega)]
  · exact hq.elim
theorem st_putZN {own : String} {bytes : ByteArray} {ret : Option FieldType} {nm : String} {nL lv pc n : Nat} {k f idx : Nat} {C : String} {T : u_T} {N : Nat} (hk : k < 9) (hc : vwC[k]? = some (C, T, N)) (hf : f < N) (hd : decode bytes pc = .ok (.putfield idx, 3)) (hn : pc + 3 = n) {host : String} (hw : Cond.fieldLinkNest own idx (T f).1 (T f).2.1 (T f).2.2.1 host ∈ lw_tbl) (hfin : (T f).2.2.2 = false) (hty : tyk k f = .boolean) : SOK own bytes ret nm nL lv pc (x_putZ k f n) := by
  intro g p l e R s m args below meth c call Q n0 hC hO P' hP L st u cc ss hq H ls locs cells slots hRp hl hoL hoS hlo h1 h2 h0
  obtain ⟨hx, hb, hr, hml, hown, hts, hlk, hnm, hK, hfr, hlw⟩ := hC
  subst hn
  unfold x_putZ at hq
  split at hq
  · rename_i x a st'
    obtain ⟨ox, oS⟩ := aok_cons.mp hoS
    obtain ⟨oa, oS⟩ := aok_cons.mp oS
    obtain ⟨hka, hq⟩ := z_ko hq
    have h8 : 8 ≤ a := kd_8 hka (by omega)
    obtain ⟨h01, hq⟩ := z_0o hq
    refine aput hx hb hown hts hK hk hc hf hRp hka (oa a rfl) (Or.inl ⟨Or.inr ⟨host, va_Nw.use rfl (hK.2.1 _ hw rfl)⟩, hfin⟩) (v := .int (Int32.ofInt x)) (by rw [hty]; rcases h01 with h | h <;> subst h <;> rfl) (by rw [hty]; rcases h01 with h | h <;> subst h <;> rfl) hd (fun H' i z o hob => ?_)
    have hrep : aRep g (sI u a f x) H' := aRep_sI hRp h8 (oa a rfl) ox z o (ck_obj' hka hk (hob.to (fun j hj => ?_)))
    · exact hP _ _ _ _ _ _ hq H' ls _ cells slots hrep hl hoL oS (locs_in hlo h8) h1 h2 h0
    · unfold updV
      by_cases ej : j = f
      · subst ej
        rw [if_pos rfl, fv_sI (Or.inr hty), if_pos rfl]
      · rw [if_neg ej, fv_sI' (by omega)]
  · exact hq.elim
theorem st_putRN {own : String} {bytes : ByteArray} {ret : Option FieldType} {nm : String} {nL lv pc n : Nat} {k f idx : Nat} {C : String} {T : u_T} {N : Nat} (hk : k < 9) (hc : vwC[k]? = some (C, T, N)) (hf : f < N) (hd : decode bytes pc = .ok (.putfield idx, 3)) (hn : pc + 3 = n) {host : String} (hw : Cond.fieldLinkNest own idx (T f).1 (T f).2.1 (T f).2.2.1 host ∈ lw_tbl) (hfin : (T f).2.2.2 = false) (hty : rty (tyk k f)) : SOK own bytes ret nm nL lv pc (x_putR k f n) := by
  intro g p l e R s m args below meth c call Q n0 hC hO P' hP L st u cc ss hq H ls locs cells slots hRp hl hoL hoS hlo h1 h2 h0
  obtain ⟨hx, hb, hr, hml, hown, hts, hlk, hnm, hK, hfr, hlw⟩ := hC
  subst hn
  unfold x_putR at hq
  split at hq
  · rename_i x a st'
    obtain ⟨ox, oS⟩ := aok_cons.mp hoS
    obtain ⟨oa, oS⟩ := aok_cons.mp oS
    obtain ⟨hka, hq⟩ := z_ko hq
    have h8 : 8 ≤ a := kd_8 hka (by omega)
    refine aput hx hb hown hts hK hk hc hf hRp hka (oa a rfl) (Or.inl ⟨Or.inr ⟨host, va_Nw.use rfl (hK.2.1 _ hw rfl)⟩, hfin⟩) (v := ar g x) (ar_fits hty).1 (ar_fits hty).2 hd (fun H' i z o hob => ?_)
    have hrep : aRep g (sR u a f x) H' := aRep_sR hRp h8 (oa a rfl) ox z o (ck_obj' hka hk (hob.to (fun j hj => ?_)))
    · exact hP _ _ _ _ _ _ hq H' ls _ cells slots hrep hl hoL oS (locs_in hlo h8) h1 h2 h0
    · unfold updV
      by_cases ej : j = f
      · subst ej
        rw [if_pos rfl, fv_sR hty, if_pos rfl]
      · rw [if_neg ej, fv_sR' (by omega)]
  · exact hq.elim
theorem st_putIF {own : String} {bytes : ByteArray} {ret : Option FieldType} {nm : String} {nL lv pc n : Nat} {k f idx : Nat} {C : String} {T : u_T} {N : Nat} (hk : k < 9) (hc : vwC[k]? = some (C, T, N)) (hf : f < N) (hd : decode bytes pc = .ok (.putfield idx, 3)) (hn : pc + 3 = n) (hw : Cond.fieldLink own idx (T f).1 (T f).2.1 (T f).2.2.1 ∈ lw_g) (hfin : (T f).2.2.2 = true) (hin : nm = "<init>") (hdc : (T f).1 = own) (hty : tyk k f = .int) : SOK own bytes ret nm nL lv pc (x_putI k f n) := by
  intro g p l e R s m args below meth c call Q n0 hC hO P' hP L st u cc ss hq H ls locs cells slots hRp hl hoL hoS hlo h1 h2 h0
  obtain ⟨hx, hb, hr, hml, hown, hts, hlk, hnm, hK, hfr, hlw⟩ := hC
  subst hn
  unfold x_putI at hq
  split at hq
  · rename_i x a st'
    obtain ⟨ox, oS⟩ := aok_cons.mp hoS
    obtain ⟨oa, oS⟩ := aok_cons.mp oS
    obtain ⟨hka, hq⟩ := z_ko hq
    have h8 : 8 ≤ a := kd_8 hka (by omega)
    refine aput hx hb hown hts hK hk hc hf hRp hka (oa a rfl) (Or.inr ⟨hts _ hw, hfin, hnm.trans hin, hdc⟩) (v := .int (Int32.ofInt x)) (by rw [hty]; exact vp_nar_int _) (by rw [hty]; rfl) hd (fun H' i z o hob => ?_)
    have hrep : aRep g (sI u a f x) H' := aRep_sI hRp h8 (oa a rfl) ox z o (ck_obj' hka hk (hob.to (fun j hj => ?_)))
    · exact hP _ _ _ _ _ _ hq H' ls _ cells slots hrep hl hoL oS (locs_in hlo h8) h1 h2 h0
    · unfold updV
      by_cases ej : j = f
      · subst ej
        rw [if_pos rfl, fv_sI (Or.inl hty), if_pos rfl]
      · rw [if_neg ej, fv_sI' (by omega)]
  · exact hq.elim
theorem st_putRF {own : String} {bytes : ByteArray} {ret : Option FieldType} {nm : String} {nL lv pc n : Nat} {k f idx : Nat} {C : String} {T : u_T} {N : Nat} (hk : k < 9) (hc : vwC[k]? = some (C, T, N)) (hf : f < N) (hd : decode bytes pc = .ok (.putfield idx, 3)) (hn : pc + 3 = n) (hw : Cond.fieldLink own idx (T f).1 (T f).2.1 (T f).2.2.1 ∈ lw_g) (hfin : (T f).2.2.2 = true) (hin : nm = "<init>") (hdc : (T f).1 = own) (hty : rty (tyk k f)) : SOK own bytes ret nm nL lv pc (x_putR k f n) := by
  intro g p l e R s m args below meth c call Q n0 hC hO P' hP L st u cc ss hq H ls locs cells slots hRp hl hoL hoS hlo h1 h2 h0
  obtain ⟨hx, hb, hr, hml, hown, hts, hlk, hnm, hK, hfr, hlw⟩ := hC
  subst hn
  unfold x_putR at hq
  split at hq
  · rename_i x a st'
    obtain ⟨ox, oS⟩ := aok_cons.mp hoS
    obtain ⟨oa, oS⟩ := aok_cons.mp oS
    obtain ⟨hka, hq⟩ := z_ko hq
    have h8 : 8 ≤ a := kd_8 hka (by omega)
    refine aput hx hb hown hts hK hk hc hf hRp hka (oa a rfl) (Or.inr ⟨hts _ hw, hfin, hnm.trans hin, hdc⟩) (v := ar g x) (ar_fits hty).1 (ar_fits hty).2 hd (fun H' i z o hob => ?_)
    have hrep : aRep g (sR u a f x) H' := aRep_sR hRp h8 (oa a rfl) ox z o (ck_obj' hka hk (hob.to (fun j hj => ?_)))
    · exact hP _ _ _ _ _ _ hq H' ls _ cells slots hrep hl hoL oS (locs_in hlo h8) h1 h2 h0
    · unfold updV
      by_cases ej : j = f
      · subst ej
        rw [if_pos rfl, fv_sR hty, if_pos rfl]
      · rw [if_neg ej, fv_sR' (by omega)]
  · exact hq.elim
