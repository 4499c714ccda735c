section CELLS
variable {p : Program} {l : Launch} {e : Env} {R : Room} {s : State} {m : MethodId} {args : Array Value} {below : List Frame} {meth : Method} {c : Code} {H : Heap} {locs : List Loc} {cells slots : Nat} {Q : State → Prop}
/-- a link to a field, own or a nest mate's -/
def fLk (s : State) (args : Array Value) (own : String) (idx : Nat) (ref name desc : String) : Prop := (Cond.fieldLink own idx ref name desc).before args s = true ∨ ∃ host, (Cond.fieldLinkNest own idx ref name desc host).before args s = true
theorem aget {g : aG} {bytes : ByteArray} {own : String} (hx : p.tables.exec = Jvm.exec) (hb : c.code = bytes) (hown : s.vm.findClass own = some m.cls) (hts : ∀ w ∈ lw_g, w.before args s = true) (hK : knS g s) {a k f idx pc : Nat} {C : String} {T : u_T} {N : Nat} (hk : k < 9) (hc : vwC[k]? = some (C, T, N)) (hf : f < N) {u : aS} (hRp : aRep g u H) (hka : (kd a).1 = k) (hal : a < nx u)
    (hlink : fLk s args own idx (T f).1 (T f).2.1 (T f).2.2.1) (hd : decode bytes pc = .ok (.getfield idx, 3)) {ls : Array Slot} {rest : List Value} (kk : W p l e R s m args below meth c H locs cells slots Q (F0 m (pc + 3) ls (fv g u a (tyk k f) f :: rest))) : W p l e R s m args below meth c H locs cells slots Q (F0 m pc ls (.ref (rho g a) :: rest)) := by
  obtain ⟨cell, q1, q2, q3, q4⟩ := ck_obj (hRp.2.1 a (kd_8 hka (by omega)) hal) hka hk
  have hN := nf_ok k hk _ hc
  have hin := hin_all k hk _ hc
  obtain ⟨hS, hfc, kC, hkC, hkind⟩ := hK.1.1 k _ hc
  obtain ⟨cf, kf, fi, fd, hi, hsl⟩ := hS f hf
  have hst := (u_facts hfc hkC (u_lays hts hin hf) hi).1
  have hsv : cell.slots[fd.slot]? = some (fv g u a (tyk k f) f) := by rw [hsl]; exact q4 f (by rw [← hN]; exact hf)
  rcases hlink with hl | ⟨host, hl⟩
  · exact W.getf hx hb hown hl hi hst q1 (by rw [q3]; exact fun h => by cases h) hsv rfl rfl hd kk
  · exact va_Wgetf hx hb hown hl hi hst q1 (by rw [q3]; exact fun h => by cases h) hsv rfl rfl hd kk
theorem aput {g : aG} {bytes : ByteArray} {own : String} (hx : p.tables.exec = Jvm.exec) (hb : c.code = bytes) (hown : s.vm.findClass own = some m.cls) (hts : ∀ w ∈ lw_g, w.before args s = true) (hK : knS g s) {a k f idx pc : Nat} {C : String} {T : u_T} {N : Nat} (hk : k < 9) (hc : vwC[k]? = some (C, T, N)) (hf : f < N) {u : aS} (hRp : aRep g u H) (hka : (kd a).1 = k) (hal : a < nx u)
    (hlink : (fLk s args own idx (T f).1 (T f).2.1 (T f).2.2.1 ∧ (T f).2.2.2 = false) ∨ ((Cond.fieldLink own idx (T f).1 (T f).2.1 (T f).2.2.1).before args s = true ∧ (T f).2.2.2 = true ∧ meth.name = "<init>" ∧ (T f).1 = own)) {v : Value} (hn : narrow (tyk k f) v = v) (hfit : fits (tyk k f) v = true) (hd : decode bytes pc = .ok (.putfield idx, 3)) {ls : Array Slot} {rest : List Value}
    (kk : ∀ (H' : Heap) (i : Nat), H'.size = H.size → (∀ q, q ≠ rho g a → H'[q]? = H[q]?) → t_OB (rho g a) (g.1 k) (nf k) (g.2.1 k) H' (updV (fun j => fv g u a (tyk k j) j) f v) → W p l e R s m args below meth c H' (locs ++ [⟨rho g a, i⟩]) cells slots Q (F0 m (pc + 3) ls rest)) : W p l e R s m args below meth c H locs cells slots Q (F0 m pc ls (v :: .ref (rho g a) :: rest)) := by
  obtain ⟨cell, q1, q2, q3, q4⟩ := ck_obj (hRp.2.1 a (kd_8 hka (by omega)) hal) hka hk
  have hN : N = nf k := nf_ok k hk _ hc
  have hin := hin_all k hk _ hc
  have hpd := tyk_ok k hk _ hc f hf
  have hap := va_apart (own := own) hts hin (tyk k) (tyk_ok k hk _ hc) (nmk_ok k hk _ hc) hK.1 hc
  obtain ⟨hS, hfc, kC, hkC, hkind⟩ := hK.1.1 k _ hc
  obtain ⟨cf, kf, fi, fd, hi, hsl⟩ := hS f hf
  have hst := (u_facts hfc hkC (u_lays hts hin hf) hi).1
  have hlt : fd.slot < cell.slots.size := by rw [hsl]; exact k2_hasslot (q4 f (by rw [← hN]; exact hf))
  have hlay := hts _ (hin _ (u_in_lay hf))
  unfold u_lay at hlay
  have fin : ∀ H' : Heap, H'[rho g a]? = some (cell.setSlot fd.slot v) → H'.size = H.size → (∀ q, q ≠ rho g a → H'[q]? = H[q]?) → W p l e R s m args below meth c H' (locs ++ [⟨rho g a, fd.slot⟩]) cells slots Q (F0 m (pc + 3) ls rest) := fun H' e1 e2 e3 => by
    refine kk H' fd.slot e2 e3 ⟨_, e1, q2, q3, ?_⟩
    rw [hsl, ← hN]
    rw [← hN] at q4
    exact t_set q4 hap hf v
  rcases hlink with ⟨hl, hfin⟩ | ⟨hl, hfin, hnm, hdecl⟩
  · have h6 : k2_Sd s fd cell.cls v := by
      rw [if_neg (by rw [hfin]; decide)] at hlay
      rw [q2]
      exact u_store hfc hkC hkind hlay hi hpd hn hfit
    rcases hl with hl | ⟨host, hl⟩
    · exact W.putK hx hb (f := fd) ⟨hown, hl, ⟨_, _, _, hi⟩, hst⟩ h6 q1 q3 hlt rfl rfl hd fin
    · exact va_WputK hx hb (f := fd) hown hl hi hst h6 q1 q3 hlt rfl rfl hd fin
  · rw [if_pos hfin] at hlay
    have hcf : m.cls = cf := by
      obtain ⟨_, _, c', _, _, _, -, -, hf', -, -, -, hown2, -⟩ := Cond.laysFinal_spec hlay
      have e1 : c' = cf := by have := hi.symm.trans hf'; simp at this; exact this.1.symm
      rw [hdecl] at hown2
      rw [← e1]; exact Option.some.inj (hown.symm.trans hown2)
    have h6 := u_fits hfc hkC hkind (Or.inr hlay) hi hpd hn hfit
    exact W.putFinK hx hb hown hl hi hst hcf hnm (by rw [q2]; exact h6) q1 q3 hlt rfl rfl hd fin
end CELLS
theorem fv_sI {g : aG} {u : aS} {a : Nat} {i x j : Int} {ty : FieldType} (h : ty = .int ∨ ty = .boolean) : fv g (sI u a i x) a ty j = if j = i then .int (Int32.ofInt x) else fv g u a ty j := by
  rcases h with h | h <;> subst h <;> (unfold fv; show Value.int (Int32.ofInt (hI (sI u a i x) a j)) = _; rw [hI_sI]; by_cases e : j = i <;> simp [e])
theorem fv_sF {g : aG} {u : aS} {a : Nat} {i j : Int} {x : UInt32} : fv g (sF u a i x) a .float j = if j = i then .float x else fv g u a .float j := by
  unfold fv
  show Value.float (hF (sF u a i x) a j) = _
  rw [hF_sF]
  by_cases e : j = i <;> simp [e]
def rty (ty : FieldType) : Prop := (∃ C, ty = .object C) ∨ ∃ t, ty = .array t
theorem fv_ref {g : aG} {u : aS} {a : Nat} {j : Int} {ty : FieldType} (h : rty ty) : fv g u a ty j = ar g (hR u a j) := by
  rcases h with ⟨C, h⟩ | ⟨C, h⟩ <;> subst h <;> rfl
theorem fv_sR {g : aG} {u : aS} {a : Nat} {i j : Int} {r : Option Nat} {ty : FieldType} (h : rty ty) : fv g (sR u a i r) a ty j = if j = i then ar g r else fv g u a ty j := by
  rw [fv_ref h, fv_ref h, hR_sR]
  by_cases e : j = i <;> simp [e]
/-- what a field's other type does not show stays -/
theorem fv_sI' {g : aG} {u : aS} {a : Nat} {i x j : Int} {ty : FieldType} (h : ¬ j = i) : fv g (sI u a i x) a ty j = fv g u a ty j := by
  unfold fv
  rw [hI_sI, if_neg (fun q => h q.2), hF_sI, hR_sI]
theorem fv_sR' {g : aG} {u : aS} {a : Nat} {i j : Int} {r : Option Nat} {ty : FieldType} (h : ¬ j = i) : fv g (sR u a i r) a ty j = fv g u a ty j := by
  unfold fv
  rw [hR_sR, if_neg (fun q => h q.2), hF_sR, hI_sR]
theorem ar_fits {g : aG} {r : Option Nat} {ty : FieldType} (h : rty ty) : narrow ty (ar g r) = ar g r ∧ fits ty (ar g r) = true := by
  rcases h with ⟨C, h⟩ | ⟨C, h⟩ <;> subst h <;> cases r <;> exact ⟨rfl, rfl⟩
theorem aRep_sI {g : aG} {u : aS} {H H' : Heap} {a : Nat} {i x : Int} (h : aRep g u H) (ha : 8 ≤ a) (hl : a < nx u) (hx : i_rg x) (z : H'.size = H.size) (o : ∀ q, q ≠ rho g a → H'[q]? = H[q]?) (hc : ck g (sI u a i x) H' a) : aRep g (sI u a i x) H' := by
  refine aRep_upd h ha rfl (fun b j hb => ⟨by rw [hI_sI, if_neg (fun q => hb q.1)], rfl, rfl⟩) (fun j => ?_) (fun j r hr => h.2.2.2.2.1 a j r hr) hl z o hc
  rw [hI_sI]
  split
  · exact hx
  · exact h.2.2.2.1 a j
theorem aRep_sF {g : aG} {u : aS} {H H' : Heap} {a : Nat} {i : Int} {x : UInt32} (h : aRep g u H) (ha : 8 ≤ a) (hl : a < nx u) (z : H'.size = H.size) (o : ∀ q, q ≠ rho g a → H'[q]? = H[q]?) (hc : ck g (sF u a i x) H' a) : aRep g (sF u a i x) H' :=
  aRep_upd h ha rfl (fun b j hb => ⟨rfl, by rw [hF_sF, if_neg (fun q => hb q.1)], rfl⟩) (fun j => h.2.2.2.1 a j) (fun j r hr => h.2.2.2.2.1 a j r hr) hl z o hc
theorem aRep_sR {g : aG} {u : aS} {H H' : Heap} {a : Nat} {i : Int} {r : Option Nat} (h : aRep g u H) (ha : 8 ≤ a) (hl : a < nx u) (hx : ∀ b, r = some b → b < nx u) (z : H'.size = H.size) (o : ∀ q, q ≠ rho g a → H'[q]? = H[q]?) (hc : ck g (sR u a i r) H' a) : aRep g (sR u a i r) H' := by
  refine aRep_upd h ha rfl (fun b j hb => ⟨rfl, rfl, by rw [hR_sR, if_neg (fun q => hb q.1)]⟩) (fun j => h.2.2.2.1 a j) (fun j r' hr => ?_) hl z o hc
  rw [hR_sR] at hr
  split at hr
  · exact hx _ hr
  · exact h.2.2.2.2.1 a j r' hr
theorem locs_in {g : aG} {locs : List Loc} {a i : Nat} (h : ∀ q ∈ locs, (gH g).size ≤ q.base) (ha : 8 ≤ a) : ∀ q ∈ locs ++ [(⟨rho g a, i⟩ : Loc)], (gH g).size ≤ q.base := by
  intro q hq
  rcases List.mem_append.mp hq with hq | hq
  · exact h q hq
  · cases List.mem_singleton.mp hq
    show (gH g).size ≤ rho g a
    rw [rho_8 ha]
    omega
