/-! sum, sound -/
def sdF (f : Int → UInt32) : Nat → Int → UInt64 → UInt64
  | 0, _, a => a
  | n + 1, x, a => sdF f n (x + 1) (FP.dadd a (FP.f2d (f x)))
def db (K : Nat) (x : UInt64) : Prop := x.toNat % 2 ^ 63 < K * 2 ^ 52
theorem db_mono {E F : Nat} {x : UInt64} (h : db E x) (hE : E ≤ F) : db F x := Nat.lt_of_lt_of_le h (Nat.mul_le_mul_right _ hE)
theorem db_fin {E : Nat} {x : UInt64} (h : db E x) (hE : E ≤ 2047) : FP.Core.DFin x := FP.Core.fin_of_lt h hE
theorem db_add {E : Nat} {a b : UInt64} (ha : db E a) (hb : db E b) (h1 : E ≤ 2047) : db (E + 2) (FP.dadd a b) := FP.Core.dadd_mag ha hb h1
theorem db_vf {E : Nat} {x : UInt64} (h : db E x) (hE : E ≤ 2047) : vf_n64 x := vd_of (db_fin h hE).ne_nan
theorem f2d_db {v : UInt32} (hf : FP.Core.FFin v) : db 1152 (FP.f2d v) := by
  have hm := (FP.Core.fin_bits32 v).mp hf
  obtain ⟨s, c, q, e, ue, se⟩ := fU hf
  have hn : FP.Core.val64 (FP.f2d v) ≠ .nan := by
    rw [e]
    exact FP.Core.Datum.noConfusion
  have hz := FP.Core.zmag_bits hn
  rw [e, uo64] at hz
  have hz' : FP.Core.inUnits c q FP.Core.b64.qmin = uo 52 ((FP.f2d v).toNat % 2 ^ 63) := hz
  rw [q64, ue] at hz'
  have hu : uo 23 (v.toNat % 2 ^ 31) < 2 ^ (23 + 2 * 127) := uo_lt (B := 127) (by omega) (by omega)
  have hu2 : uo 23 (v.toNat % 2 ^ 31) * 2 ^ 925 < 2 ^ 1202 := by
    have := Nat.mul_lt_mul_of_pos_right hu (Nat.two_pow_pos 925)
    rw [← Nat.pow_add] at this
    exact this
  rw [hz'] at hu2
  unfold db
  generalize (FP.f2d v).toNat % 2 ^ 63 = m at *
  apply Classical.byContradiction
  intro hc
  have hc' : 1152 * 2 ^ 52 ≤ m := Nat.le_of_not_lt hc
  have hge : 2 ^ 52 ≤ m := by omega
  obtain ⟨g1, g2, g3, g4⟩ := uo_ge hge
  have hd : 1152 ≤ m / 2 ^ 52 := (Nat.le_div_iff_mul_le (Nat.two_pow_pos 52)).mpr hc'
  have : 2 ^ 1202 ≤ 2 ^ 52 * 2 ^ (m / 2 ^ 52 - 1) := by
    rw [← Nat.pow_add]
    exact Nat.pow_le_pow_right (by decide) (by omega)
  exact absurd hu2 (Nat.not_lt.mpr (Nat.le_trans this g3))
theorem sd_b {f : Int → UInt32} : ∀ (n : Nat) (x : Int) (a : UInt64) (E : Nat), (∀ y, x ≤ y → y < x + n → FP.Core.FFin (f y)) → db E a → 1152 ≤ E → E + 2 * n ≤ 2047 → ¬ a = 9223372036854775808 → db (E + 2 * n) (sdF f n x a) ∧ ¬ sdF f n x a = 9223372036854775808
  | 0, x, a, E, hf, h1, h2, h3, h4 => ⟨h1, h4⟩
  | n + 1, x, a, E, hf, h1, h2, h3, h4 => by
    have f1 := f2d_db (hf x (by omega) (by omega))
    have f2 := db_mono f1 h2
    have ih := sd_b (f := f) n (x + 1) (FP.dadd a (FP.f2d (f x))) (E + 2) (fun y a b => hf y (by omega) (by omega)) (db_add h1 f2 (by omega)) (by omega) (by omega) (dadd_nz (db_fin h1 (by omega)) (db_fin f2 (by omega)) h4)
    refine ⟨db_mono ih.1 (by omega), ih.2⟩
theorem cvd_g {a b : UInt64} (ha : FP.Core.DFin a) (hb : FP.Core.DFin b) : (Op.cmpValue (FP.dcmp a b) .g).toInt < 0 ↔ FP.Core.dkey a < FP.Core.dkey b := by
  have h := FP.Core.dcmp_lt_key ha.ne_nan hb.ne_nan
  rw [← h]
  cases hc : FP.Core.dcmp a b with
  | none => exact absurd ((FP.Core.dcmp_none a b).mp hc) (fun z => z.elim ha.ne_nan hb.ne_nan)
  | some o =>
    show (Op.cmpValue (FP.Core.dcmp a b) .g).toInt < 0 ↔ _
    rw [hc]
    cases o <;> decide
theorem dneg_n {v : UInt64} (h : 2 ^ 63 ≤ v.toNat) : (FP.dneg v).toNat = v.toNat - 2 ^ 63 := by
  have hv : v.toNat < 2 ^ (63 + 1) := v.toNat_lt
  show (v ^^^ 0x8000000000000000).toNat = _
  rw [UInt64.toNat_xor]
  have := FP.xor_top (a := v.toNat) (k := 63) hv
  rw [show (0x8000000000000000 : UInt64).toNat = 2 ^ 63 from rfl, this.2 h]
theorem k_bitsOfDouble {d : Nat} {v : UInt64} {u : aS} {Q : aQ} (hf : FP.Core.DFin v) (hz : ¬ v = 9223372036854775808) (h : Q (some (vL v.toInt64.toInt)) u) : wpm (d + 2) M_X7_bitsOfDouble [vD v] u Q := by
  have f0 : FP.Core.DFin 0 := db_fin (E := 1) (by decide : (0 : UInt64).toNat % 2 ^ 63 < 1 * 2 ^ 52) (by omega)
  have k0 : FP.Core.dkey 0 = 0 := by decide
  have hlt : v.toNat < 2 ^ 64 := v.toNat_lt
  have hzn : ¬ v.toNat = 2 ^ 63 := fun z => hz (UInt64.toNat_inj.mp z)
  have hm := (FP.Core.fin_bits v).mp hf
  have cg := cvd_g hf f0
  rw [k0] at cg
  have hk : FP.Core.dkey v < 0 ↔ 2 ^ 63 ≤ v.toNat := by
    unfold FP.Core.dkey
    by_cases hs : 2 ^ 63 ≤ v.toNat
    · rw [if_pos hs]
      omega
    · rw [if_neg hs]
      omega
  refine e_X7_bitsOfDouble rfl (run [] 60 ?_)
  refine z_bq (fun hc => ?_) (fun hc => ?_)
  · have hs : 2 ^ 63 ≤ v.toNat := hk.mp (cg.mp hc)
    have hn := dneg_n hs
    refine k_dbits (by rw [hn]; omega) ?_
    refine z_bq (fun hd => ?_) (fun hd => absurd hc hd)
    refine q_lq h ?_
    rw [hn]
    exact bl_n (by omega) (by omega)
  · have hs : ¬ 2 ^ 63 ≤ v.toNat := fun z => hc (cg.mpr (hk.mpr z))
    refine k_dbits (by omega) ?_
    refine z_bq (fun hd => absurd hd hc) (fun hd => ?_)
    refine q_lq h ?_
    rw [bl_p (by omega)]
theorem c_dbits {d : Nat} {v : UInt64} {u : aS} {Q : aQ} (hf : FP.Core.DFin v) (h : Q (some (vL v.toInt64.toInt)) u) : wpm (d + 2) M_J_dbits [vD v] u Q := by
  have hc : (Op.cmpValue (FP.dcmp v v) .l).toInt = 0 := by
    show (Op.cmpValue (FP.Core.dcmp v v) .l).toInt = 0
    rw [FP.Core.dcmp_self hf.ne_nan]
    rfl
  refine e_J_dbits rfl (run [] 60 ?_)
  refine e_J_dnan (args := [vD v]) rfl (run [] 60 ?_)
  refine z_bq (fun hy => ?_) (fun hy => absurd hc hy)
  exact h
def oSum (K : So) (T : Tr) (t w : Int) : Int := if ¬ ((0 ≤ t ∧ t ≤ 127) ∧ t ≤ w ∧ w ≤ 127) then -2000000002 else (sdF (hdF K T) (w - t + 1).toNat t 0).toInt64.toInt
theorem k_wsum {d : Nat} {t w : Int} {u : aS} {Q : aQ} {A : Al} (hA : cA u A) (hZ : vSz A.1) (hF : vSf A.1) (hV : vTN A.2.2.2.1) (hQ : vQN A.1 A.2.2.2.1) (ht : 0 ≤ t) (hw : w ≤ 127) {c s : Nat} {x4 : aV} : ∀ (n : Nat) (x : Int) (a : UInt64) (E : Nat), x + n = w + 1 → t ≤ x → db E a → 1152 ≤ E → E + 2 * n ≤ 2000 → ¬ a = 9223372036854775808 → Q (some (vL (sdF (hdF A.1 A.2.2.2.1) n x a).toInt64.toInt)) u → wp (wpm (d + 5)) cd_X7_sum Q 28 [vR 8, vI t, vI w, vD a, x4, vI x] [] u c s
  | 0, x, a, E, h1, h2, h3, h4, h5, h6, h => by
    refine run [(28, [])] 60 ?_
    refine z_bq (fun hz => ?_) (fun hz => by omega)
    refine k_bitsOfDouble (db_fin h3 (by omega)) h6 ?_
    exact h
  | n + 1, x, a, E, h1, h2, h3, h4, h5, h6, h => by
    have z := hZ.1
    have hb := hdF_b x hZ hF hV hQ
    have ff := fb_fin hb.1 (by omega)
    have f1 := f2d_db ff
    have f2 := db_mono f1 h4
    have f3 := db_add h3 f2 (by omega)
    refine run [(28, [])] 60 ?_
    refine z_bq (fun hz => by omega) (fun hz => ?_)
    refine k_heardAt hA hZ hF hV hQ (by omega) ?_
    refine ⟨f2d_vf ff, ?_⟩
    refine ⟨db_vf f3 (by omega), ?_⟩
    refine z_gq ⟨by omega, by omega⟩ ?_
    exact k_wsum hA hZ hF hV hQ ht hw n (x + 1) _ (E + 2) (by omega) (by omega) f3 (by omega) (by omega) (dadd_nz (db_fin h3 (by omega)) (db_fin f2 (by omega)) h6) h
theorem c_wsum {d : Nat} {t w : Int} {u : aS} {Q : aQ} {A : Al} (hA : mA u A) (hZ : vSz A.1) (hF : vSf A.1) (hV : vTN A.2.2.2.1) (hQ : vQN A.1 A.2.2.2.1) (ht : 0 ≤ t) (hw : w ≤ 127) {c s : Nat} {x4 : aV} : ∀ (n : Nat) (x : Int) (a : UInt64) (E : Nat), x + n = w + 1 → t ≤ x → db E a → 1152 ≤ E → E + 2 * n ≤ 2000 → ¬ a = 9223372036854775808 → Q (some (vL (sdF (hdF A.1 A.2.2.2.1) n x a).toInt64.toInt)) u → wp (wpm (d + 4)) cd_X8_sum Q 34 [vR 139, vI t, vI w, vD a, x4, vI x] [] u c s
  | 0, x, a, E, h1, h2, h3, h4, h5, h6, h => by
    refine run [(34, [])] 60 ?_
    refine z_bq (fun hz => ?_) (fun hz => by omega)
    refine c_dbits (db_fin h3 (by omega)) ?_
    exact h
  | n + 1, x, a, E, h1, h2, h3, h4, h5, h6, h => by
    have z := hZ.1
    have hb := hdF_b x hZ hF hV hQ
    have ff := fb_fin hb.1 (by omega)
    have f1 := f2d_db ff
    have f2 := db_mono f1 h4
    have f3 := db_add h3 f2 (by omega)
    refine run [(34, [])] 60 ?_
    refine z_bq (fun hz => by omega) (fun hz => ?_)
    refine c_heardAt hA hZ hF hV hQ (by omega) ?_
    refine ⟨f2d_vf ff, ?_⟩
    refine ⟨db_vf f3 (by omega), ?_⟩
    refine z_gq ⟨by omega, by omega⟩ ?_
    exact c_wsum hA hZ hF hV hQ ht hw n (x + 1) _ (E + 2) (by omega) (by omega) f3 (by omega) (by omega) (dadd_nz (db_fin h3 (by omega)) (db_fin f2 (by omega)) h6) h
theorem k_sum {d : Nat} {t w : Int} {u : aS} {Q : aQ} {A : Al} (hA : cA u A) (hZ : vSz A.1) (hF : vSf A.1) (hV : vTN A.2.2.2.1) (hQ : vQN A.1 A.2.2.2.1) (h : Q (some (vL (oSum A.1 A.2.2.2.1 t w))) u) : wpm (d + 6) M_X7_sum [vR 8, vI t, vI w] u Q := by
  unfold oSum at h
  refine e_X7_sum rfl (run [(28, [])] 60 ?_)
  refine k_isMoment (fun t0 t1 => ?_) (fun t0 => ?_)
  · refine k_isMoment (fun w0 w1 => ?_) (fun w0 => ?_)
    · refine z_bq (fun hz => ?_) (fun hz => ?_)
      · rw [if_pos (by omega)] at h
        exact h
      · rw [if_neg (by omega)] at h
        exact k_wsum hA hZ hF hV hQ t0 w1 (w - t + 1).toNat t 0 1152 (by omega) (by omega) (by decide : (0 : UInt64).toNat % 2 ^ 63 < 1152 * 2 ^ 52) (by omega) (by omega) (by decide) h
    · rw [if_pos (by omega)] at h
      exact h
  · rw [if_pos (by omega)] at h
    exact h
theorem c_sum {d : Nat} {t w : Int} {u : aS} {Q : aQ} {A : Al} (hA : mA u A) (hZ : vSz A.1) (hF : vSf A.1) (hV : vTN A.2.2.2.1) (hQ : vQN A.1 A.2.2.2.1) (h : Q (some (vL (oSum A.1 A.2.2.2.1 t w))) u) : wpm (d + 5) M_X8_sum [vR 139, vI t, vI w] u Q := by
  unfold oSum at h
  refine e_X8_sum rfl (run [(34, [])] 60 ?_)
  refine c_in (fun t0 t1 => ?_) (fun t0 => ?_)
  · refine c_in (fun w0 w1 => ?_) (fun w0 => ?_)
    · rw [if_neg (by omega)] at h
      exact c_wsum hA hZ hF hV hQ t0 w1 (w - t + 1).toNat t 0 1152 (by omega) (by omega) (by decide : (0 : UInt64).toNat % 2 ^ 63 < 1152 * 2 ^ 52) (by omega) (by omega) (by decide) h
    · rw [if_pos (by omega)] at h
      exact h
  · rw [if_pos (by omega)] at h
    exact h
def oSound (K : So) (T : Tr) (s w i : Int) : Int := if ¬ (0 ≤ s ∧ s < K.1) then -2000000001 else if ¬ (0 ≤ w ∧ w ≤ 3) then -2000000002 else if w = 0 then K.2.1 s else if ¬ (0 ≤ i ∧ i < K.2.1 s) then -2000000002 else if w = 1 then s16 (K.2.2 s i) else if w = 2 then (K.2.2 s i).toInt32.toInt else oTimes T s i
theorem k_sound {d : Nat} {s w i : Int} {u : aS} {Q : aQ} {A : Al} (hA : cA u A) (hZ : vSz A.1) (hF : vSf A.1) (hV : vTr A.2.2.2.1) (h : Q (some (vI (oSound A.1 A.2.2.2.1 s w i))) u) : wpm (d + 4) M_X7_sound [vR 8, vI s, vI w, vI i] u Q := by
  have hS := hA.1
  have v := hZ.1
  unfold oSound at h
  refine e_X7_sound rfl (run [] 60 ?_)
  refine k_isSound hA hZ (fun s0 s1 => ?_) (fun s0 => ?_)
  · rw [if_neg (by omega)] at h
    have es : hI u 17 s = A.1.2.1 s := hA.2.2.1.2.1 s s0 (by omega)
    have vs := hZ.2 s s0 (by omega)
    refine k_within (fun w0 w1 => ?_) (fun w0 => ?_)
    · rw [if_neg (by omega)] at h
      refine z_bq (fun hy => ?_) (fun hy => ?_)
      · rw [if_pos hy] at h
        repeat first
          | refine z_gq (by first | omega | (simp [hI_sI, hI_sF, hI_sR, hI_nw, hI_ff, hI_fl, hI_cp]; try omega)) ?_
          | refine z_iq rfl (by first | omega | (simp [hI_sI, hI_sF, hI_sR, hI_nw, hI_ff, hI_fl, hI_cp]; try omega)) (by first | omega | (simp [hI_sI, hI_sF, hI_sR, hI_nw, hI_ff, hI_fl, hI_cp]; try omega)) ?_
          | refine z_dq (hS.sounds) ?_
          | refine z_dq (hS.lengths) ?_
        exact q_eq h es
      · rw [if_neg hy] at h
        repeat first
          | refine z_gq (by first | omega | (simp [hI_sI, hI_sF, hI_sR, hI_nw, hI_ff, hI_fl, hI_cp]; try omega)) ?_
          | refine z_iq rfl (by first | omega | (simp [hI_sI, hI_sF, hI_sR, hI_nw, hI_ff, hI_fl, hI_cp]; try omega)) (by first | omega | (simp [hI_sI, hI_sF, hI_sR, hI_nw, hI_ff, hI_fl, hI_cp]; try omega)) ?_
          | refine z_dq (hS.sounds) ?_
          | refine z_dq (hS.lengths) ?_
        refine k_within (fun i0 i1 => ?_) (fun i0 => ?_)
        · rw [if_neg (by omega)] at h
          obtain ⟨sc, sl⟩ := cSz hA hZ
          have ev := hA.2.2.1.2.2 s i s0 (by omega) i0 (by omega) s1
          have eb := hF s i s0 s1 i0 (by omega)
          have e92 := hA.2.2.1.1
          refine z_bq (fun h1 => ?_) (fun h1 => ?_)
          · rw [if_pos h1] at h
            repeat first
              | refine z_gq (by first | omega | (simp [hI_sI, hI_sF, hI_sR, hI_nw, hI_ff, hI_fl, hI_cp]; try omega)) ?_
              | refine z_iq rfl (by first | omega | (simp [hI_sI, hI_sF, hI_sR, hI_nw, hI_ff, hI_fl, hI_cp]; try omega)) (by first | omega | (simp [hI_sI, hI_sF, hI_sR, hI_nw, hI_ff, hI_fl, hI_cp]; try omega)) ?_
              | refine z_dq (hS.sounds) ?_
            refine k_floatAt hS sc sl (by omega) (by omega) ?_
            rw [ev]
            refine k_s16 eb.1 (by omega) ?_
            exact h
          · rw [if_neg h1] at h
            refine z_bq (fun h2 => ?_) (fun h2 => ?_)
            · rw [if_pos h2] at h
              repeat first
                | refine z_gq (by first | omega | (simp [hI_sI, hI_sF, hI_sR, hI_nw, hI_ff, hI_fl, hI_cp]; try omega)) ?_
                | refine z_iq rfl (by first | omega | (simp [hI_sI, hI_sF, hI_sR, hI_nw, hI_ff, hI_fl, hI_cp]; try omega)) (by first | omega | (simp [hI_sI, hI_sF, hI_sR, hI_nw, hI_ff, hI_fl, hI_cp]; try omega)) ?_
                | refine z_dq (hS.sounds) ?_
              refine k_floatAt hS sc sl (by omega) (by omega) ?_
              rw [ev]
              refine k_bitsOfFloat (fb_fin eb.1 (by omega)) eb.2 ?_
              exact h
            · rw [if_neg h2] at h
              refine k_timesOf hA hV ?_
              exact h
        · rw [if_pos (by omega)] at h
          exact h
    · rw [if_pos w0] at h
      exact h
  · rw [if_pos s0] at h
    exact h
theorem c_sound {d : Nat} {s w i : Int} {u : aS} {Q : aQ} {A : Al} (hA : mA u A) (hZ : vSz A.1) (hF : vSf A.1) (hV : vTr A.2.2.2.1) (h : Q (some (vI (oSound A.1 A.2.2.2.1 s w i))) u) : wpm (d + 4) M_X8_sound [vR 139, vI s, vI w, vI i] u Q := by
  have hS := hA.1
  have v := hZ.1
  have e2 := hA.2.1.1
  unfold oSound at h
  refine e_X8_sound rfl (run [] 60 ?_)
  repeat first
    | refine z_gq (by first | omega | (simp [hI_sI, hI_sF, hI_sR, hI_nw, hI_ff, hI_fl, hI_cp]; try omega)) ?_
    | refine z_iq rfl (by first | omega | (simp [hI_sI, hI_sF, hI_sR, hI_nw, hI_ff, hI_fl, hI_cp]; try omega)) (by first | omega | (simp [hI_sI, hI_sF, hI_sR, hI_nw, hI_ff, hI_fl, hI_cp]; try omega)) ?_
    | refine z_dq (mS.now hS) ?_
    | refine z_dq (mS.floats hS) ?_
    | refine z_dq (mS.sizes hS) ?_
    | refine z_dq (mS.shut hS) ?_
    | refine z_dq (mS.past hS) ?_
    | refine z_dq (mS.deeds hS) ?_
    | refine z_dq (mS.images hS) ?_
    | refine z_dq (mS.imageShut hS) ?_
    | refine z_dq (mS.kept hS) ?_
    | refine z_dq (mS.owner hS) ?_
    | refine z_dq (mS.old hS) ?_
    | refine z_dq (mS.letters hS) ?_
    | refine z_dq (mS.toldSizes hS) ?_
    | refine z_dq (mS.sort hS) ?_
    | refine z_dq (mS.room hS) ?_
    | refine z_dq (mS.things hS) ?_
  refine c_in (fun s0 s1 => ?_) (fun s0 => ?_)
  · rw [if_neg (by omega)] at h
    have es : hI u 141 s = A.1.2.1 s := hA.2.1.2.1 s s0 (by omega)
    have vs := hZ.2 s s0 (by omega)
    refine c_in (fun w0 w1 => ?_) (fun w0 => ?_)
    · rw [if_neg (by omega)] at h
      refine z_bq (fun hy => ?_) (fun hy => ?_)
      · rw [if_neg (by omega)] at h
        repeat first
          | refine z_gq (by first | omega | (simp [hI_sI, hI_sF, hI_sR, hI_nw, hI_ff, hI_fl, hI_cp]; try omega)) ?_
          | refine z_iq rfl (by first | omega | (simp [hI_sI, hI_sF, hI_sR, hI_nw, hI_ff, hI_fl, hI_cp]; try omega)) (by first | omega | (simp [hI_sI, hI_sF, hI_sR, hI_nw, hI_ff, hI_fl, hI_cp]; try omega)) ?_
          | refine z_dq (mS.sizes hS) ?_
        refine c_in (fun i0 i1 => ?_) (fun i0 => ?_)
        · rw [if_neg (by omega)] at h
          have ev := hA.2.1.2.2 s i s0 (by omega) i0 (by omega) (by omega)
          have eb := hF s i s0 (by omega) i0 (by omega)
          refine z_bq (fun h0 => by omega) (fun h0 => ?_)
          repeat first
            | refine z_gq (by first | omega | (simp [hI_sI, hI_sF, hI_sR, hI_nw, hI_ff, hI_fl, hI_cp]; try omega)) ?_
            | refine z_iq rfl (by first | omega | (simp [hI_sI, hI_sF, hI_sR, hI_nw, hI_ff, hI_fl, hI_cp]; try omega)) (by first | omega | (simp [hI_sI, hI_sF, hI_sR, hI_nw, hI_ff, hI_fl, hI_cp]; try omega)) ?_
            | refine z_dq (mS.floats hS) ?_
          rw [ev]
          refine z_bq (fun h1 => ?_) (fun h1 => ?_)
          · rw [if_pos h1] at h
            refine ⟨s16_vf eb.1 (by omega), ?_⟩
            exact h
          · rw [if_neg h1] at h
            refine z_bq (fun h2 => ?_) (fun h2 => ?_)
            · rw [if_pos h2] at h
              refine c_fbits (fb_fin eb.1 (by omega)) ?_
              exact h
            · rw [if_neg h2] at h
              refine c_times hA hV ?_
              exact h
        · rw [if_pos (by omega)] at h
          exact h
      · rw [if_pos (by omega)] at h
        refine z_bq (fun h0 => ?_) (fun h0 => by omega)
        repeat first
          | refine z_gq (by first | omega | (simp [hI_sI, hI_sF, hI_sR, hI_nw, hI_ff, hI_fl, hI_cp]; try omega)) ?_
          | refine z_iq rfl (by first | omega | (simp [hI_sI, hI_sF, hI_sR, hI_nw, hI_ff, hI_fl, hI_cp]; try omega)) (by first | omega | (simp [hI_sI, hI_sF, hI_sR, hI_nw, hI_ff, hI_fl, hI_cp]; try omega)) ?_
          | refine z_dq (mS.sizes hS) ?_
        exact q_eq h es
    · rw [if_pos w0] at h
      exact h
  · rw [if_pos (by omega)] at h
    exact h
