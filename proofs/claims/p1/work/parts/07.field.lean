/-! fields, new objects and arrays, the script, switches, Object's constructor, arraycopy -/
section QF
variable {p : Program} {l : Launch} {e : Env} {R : Room} {s : State} {m : MethodId} {args : Array Value} {below : List Frame} {meth : Method} {c : Code} {H : Heap} {locs : List Loc} {cells slots : Nat} {Q : State → Prop}
variable {cc : ByteArray} {pc : Nat} {ls : Array Slot} {rest : List Value} {D : va_G} {a : Nat} {tys' : List (ClassId × FieldType)}
theorem q_put (hexec : p.tables.exec = Jvm.exec) (hb : c.code = cc) {own C : String} {T : u_T} {N ci index : Nat} (hts : ∀ w ∈ gt, w.before args s = true) (hok : clsOK ci C T N) (hown : s.vm.findClass own = some m.cls) (hK : va_K D cls tys' s) {fs : List Value} (hat : va_at D cls (a, .inr (ci, fs)) H) (hc : cls[ci]? = some (C, T, N)) (k : Nat) (hk : k < N) (hlink : (Cond.fieldLink own index C (T k).2.1 (T k).2.2.1).before args s = true) (hfin : (T k).2.2.2 = false) {v : Value} (hn : narrow (fty ci k) v = v) (hfit : fits (fty ci k) v = true) (hl : k < fs.length)
    (hdg : decode cc pc = .ok (.putfield index, 3)) (kk : ∀ H1 : Heap, va_at D cls (a, .inr (ci, fs.set k v)) H1 → H1.size = H.size → (∀ q : Nat, q ≠ a → H1[q]? = H[q]?) → W p l e R s m args below meth c H1 (locs ++ [⟨a, D.2 ci k⟩]) cells slots Q (F0 m (pc + 3) ls rest)) : W p l e R s m args below meth c H locs cells slots Q (F0 m pc ls (v :: .ref a :: rest)) := by
  obtain ⟨hin, hty, hnm, hC, -⟩ := hok
  have hap := va_apart (own := own) hts hin (fty ci) hty hnm hK hc
  obtain ⟨r, h1, cell, q1, q2, q3, q4⟩ := hat
  have hr : r = (C, T, N) := Option.some.inj (h1.symm.trans hc)
  subst hr
  obtain ⟨hS, hfc, kC, hkC, hkind⟩ := hK.1 ci _ hc
  obtain ⟨cf, kf, fi, f, hi, hsl⟩ := hS k hk
  have hlay := hts _ (hin _ (u_in_lay hk))
  unfold u_lay at hlay
  rw [if_neg (by rw [hfin]; decide)] at hlay
  have hst := (u_facts hfc hkC (u_lays hts hin hk) hi).1
  have h6 := u_store hfc hkC hkind hlay hi (hty k hk) hn hfit
  refine W.putK hexec hb (f := f) ⟨hown, hlink, ⟨_, _, _, by rw [← hC k hk]; exact hi⟩, hst⟩ (by rw [q2]; exact h6) q1 q3 (by rw [hsl]; exact k2_hasslot (q4 k hk)) rfl rfl hdg fun H' e1 e2 e3 => ?_
  rw [hsl] at e1 ⊢
  exact kk H' ⟨_, hc, t_OB.to (V := updV (vp_V fs) k v) ⟨_, e1, q2, q3, t_set q4 hap hk v⟩ (fun j _ => vp_updV_set hl v j)⟩ e2 e3
theorem q_putN (hexec : p.tables.exec = Jvm.exec) (hb : c.code = cc) {own C host : String} {T : u_T} {N ci index : Nat} (hts : ∀ w ∈ gt, w.before args s = true) (hok : clsOK ci C T N) (hown : s.vm.findClass own = some m.cls) (hK : va_K D cls tys' s) {fs : List Value} (hat : va_at D cls (a, .inr (ci, fs)) H) (hc : cls[ci]? = some (C, T, N)) (k : Nat) (hk : k < N) (hlink : (Cond.fieldLinkNest own index C (T k).2.1 (T k).2.2.1 host).before args s = true) (hfin : (T k).2.2.2 = false) {v : Value} (hn : narrow (fty ci k) v = v) (hfit : fits (fty ci k) v = true) (hl : k < fs.length)
    (hdg : decode cc pc = .ok (.putfield index, 3)) (kk : ∀ H1 : Heap, va_at D cls (a, .inr (ci, fs.set k v)) H1 → H1.size = H.size → (∀ q : Nat, q ≠ a → H1[q]? = H[q]?) → W p l e R s m args below meth c H1 (locs ++ [⟨a, D.2 ci k⟩]) cells slots Q (F0 m (pc + 3) ls rest)) : W p l e R s m args below meth c H locs cells slots Q (F0 m pc ls (v :: .ref a :: rest)) := by
  obtain ⟨hin, hty, hnm, hC, -⟩ := hok
  have hap := va_apart (own := own) hts hin (fty ci) hty hnm hK hc
  obtain ⟨r, h1, cell, q1, q2, q3, q4⟩ := hat
  have hr : r = (C, T, N) := Option.some.inj (h1.symm.trans hc)
  subst hr
  obtain ⟨hS, hfc, kC, hkC, hkind⟩ := hK.1 ci _ hc
  obtain ⟨cf, kf, fi, f, hi, hsl⟩ := hS k hk
  have hlay := hts _ (hin _ (u_in_lay hk))
  unfold u_lay at hlay
  rw [if_neg (by rw [hfin]; decide)] at hlay
  have hst := (u_facts hfc hkC (u_lays hts hin hk) hi).1
  have h6 := u_store hfc hkC hkind hlay hi (hty k hk) hn hfit
  refine va_WputK hexec hb (f := f) hown hlink (by rw [← hC k hk]; exact hi) hst (by rw [q2]; exact h6) q1 q3 (by rw [hsl]; exact k2_hasslot (q4 k hk)) rfl rfl hdg fun H' e1 e2 e3 => ?_
  rw [hsl] at e1 ⊢
  exact kk H' ⟨_, hc, t_OB.to (V := updV (vp_V fs) k v) ⟨_, e1, q2, q3, t_set q4 hap hk v⟩ (fun j _ => vp_updV_set hl v j)⟩ e2 e3
theorem q_putF (hexec : p.tables.exec = Jvm.exec) (hb : c.code = cc) {C : String} {T : u_T} {N ci index : Nat} (hts : ∀ w ∈ gt, w.before args s = true) (hok : clsOK ci C T N) (hown : s.vm.findClass C = some m.cls) (hK : va_K D cls tys' s) {fs : List Value} (hat : va_at D cls (a, .inr (ci, fs)) H) (hc : cls[ci]? = some (C, T, N)) (k : Nat) (hk : k < N) (hlink : (Cond.fieldLink C index C (T k).2.1 (T k).2.2.1).before args s = true) (hfin : (T k).2.2.2 = true) (hin2 : meth.name = "<init>") {v : Value} (hn : narrow (fty ci k) v = v) (hfit : fits (fty ci k) v = true) (hl : k < fs.length)
    (hdg : decode cc pc = .ok (.putfield index, 3)) (kk : ∀ H1 : Heap, va_at D cls (a, .inr (ci, fs.set k v)) H1 → H1.size = H.size → (∀ q : Nat, q ≠ a → H1[q]? = H[q]?) → W p l e R s m args below meth c H1 (locs ++ [⟨a, D.2 ci k⟩]) cells slots Q (F0 m (pc + 3) ls rest)) : W p l e R s m args below meth c H locs cells slots Q (F0 m pc ls (v :: .ref a :: rest)) := by
  obtain ⟨hin, hty, hnm, hC, -⟩ := hok
  have hap := va_apart (own := C) hts hin (fty ci) hty hnm hK hc
  obtain ⟨r, h1, cell, q1, q2, q3, q4⟩ := hat
  have hr : r = (C, T, N) := Option.some.inj (h1.symm.trans hc)
  subst hr
  obtain ⟨hS, hfc, kC, hkC, hkind⟩ := hK.1 ci _ hc
  obtain ⟨cf, kf, fi, f, hi, hsl⟩ := hS k hk
  have hlay := hts _ (hin _ (u_in_lay hk))
  unfold u_lay at hlay
  rw [if_pos hfin] at hlay
  have hst := (u_facts hfc hkC (u_lays hts hin hk) hi).1
  have hcf : m.cls = cf := by
    obtain ⟨_, _, c', _, _, _, -, -, hf', -, -, -, hown2, -⟩ := Cond.laysFinal_spec hlay
    have e1 : c' = cf := by have := hi.symm.trans hf'; simp at this; exact this.1.symm
    rw [hC k hk] at hown2
    rw [← e1]; exact Option.some.inj (hown.symm.trans hown2)
  have h6 := u_fits hfc hkC hkind (Or.inr hlay) hi (hty k hk) hn hfit
  refine W.putFinK hexec hb hown hlink (by rw [← hC k hk]; exact hi) hst hcf hin2 (by rw [q2]; exact h6) q1 q3 (by rw [hsl]; exact k2_hasslot (q4 k hk)) rfl rfl hdg fun H' e1 e2 e3 => ?_
  rw [hsl] at e1 ⊢
  exact kk H' ⟨_, hc, t_OB.to (V := updV (vp_V fs) k v) ⟨_, e1, q2, q3, t_set q4 hap hk v⟩ (fun j _ => vp_updV_set hl v j)⟩ e2 e3
end QF
/-- a field's value in the pure machine -/
def pval (h : PH) (ci c k : Nat) : Value := match fkd (fty ci k) with
  | 0 => .int (h_i h c k)
  | 1 => .long (h_l h c k)
  | _ => va_rf (h_r h c k)
theorem tr_pval (G : Gx) (h : PH) (ci c k : Nat) : tr G (pval h ci c k) = fval G h ci c k := by
  unfold pval fval
  generalize fkd (fty ci k) = n
  match n with
  | 0 => rfl
  | 1 => rfl
  | n + 2 => cases h_r h c k <;> rfl
theorem fs_get (G : Gx) (h : PH) (ci c : Nat) {k N : Nat} (hk : k < N) : ((List.range N).map (fval G h ci c))[k]? = some (fval G h ci c k) := by
  simp [hk]
theorem fs_set {G : Gx} {h h' : PH} {ci c k N : Nat} {v : Value} (hv : fval G h' ci c k = v) (ho : ∀ j, j ≠ k → fval G h' ci c j = fval G h ci c j) : ((List.range N).map (fval G h ci c)).set k v = (List.range N).map (fval G h' ci c) := by
  apply List.ext_getElem?
  intro j
  by_cases hj : j = k
  · subst hj
    by_cases hl : j < N
    · rw [List.getElem?_set_self (by simpa using hl)]
      simp [hl, hv]
    · rw [List.getElem?_eq_none (by simp; omega), List.getElem?_eq_none (by simp; omega)]
  · rw [List.getElem?_set_ne (Ne.symm hj)]
    by_cases hl : j < N
    · simp [hl, ho j hj]
    · rw [List.getElem?_eq_none (by simp; omega), List.getElem?_eq_none (by simp; omega)]
def s_getf : PSem := fun i pc ls st h => match st with
  | .ref o :: rest => if h_sh h o = some (0, p_c i) then some (pc + 3, ls, pval h (p_c i) o (p_e i) :: rest, h) else none
  | _ => none
def c_getf : PChk := fun o _ cc pc i => match decode cc pc with
  | .ok (.getfield n, 3) => flT[p_b i]? == some (o, n, p_c i, p_e i)
  | _ => false
theorem z_getf : SoundP c_getf s_getf := by
  intro G p l e R s m args below meth c Q o ini cc nL i pc pls pst h r H locs cells slots rls F hc hs hW hS hL _ _ k
  obtain ⟨hx, hb, hml, hown, hts, hK, -⟩ := F
  unfold c_getf at hc
  split at hc
  next n hd =>
    have hq := flT_ok _ (List.mem_of_getElem? (beq_iff_eq.mp hc))
    obtain ⟨C, T, N, hcl, hk, hlink⟩ := hq
    dsimp only at hcl hk hlink
    have hok := cls_ok _ _ _ _ hcl
    unfold s_getf at hs
    split at hs
    next a rest =>
      split at hs
      next hsh =>
        cases hs
        simp only [Nat.sub_self, Nat.add_zero] at k
        have hN : fN (p_c i) = N := hok.2.2.2.2.2.2
        refine va_get hx hb hts hok.1 hown hK.1 (va_P1 (hW.at hsh)) 0 (fs := (List.range (fN (p_c i))).map (fval G h (p_c i) a)) rfl hcl (p_e i) hk (hts _ hlink) (fun x hx => by rw [hok.2.2.2.1 _ hk] at hx; exact hx) (v := tr G (pval h (p_c i) a (p_e i))) ?_ hd (k H locs rls hW hS hL)
        rw [tr_pval]
        exact fs_get G h _ _ (by rw [hN]; exact hk)
      · cases hs
    · cases hs
  · cases hc
def c_getfN : PChk := fun o _ cc pc i => match decode cc pc with
  | .ok (.getfield n, 3) => flN[p_b i]? == some (o, n, p_c i, p_e i)
  | _ => false
theorem z_getfN : SoundP c_getfN s_getf := by
  intro G p l e R s m args below meth c Q o ini cc nL i pc pls pst h r H locs cells slots rls F hc hs hW hS hL _ _ k
  obtain ⟨hx, hb, hml, hown, hts, hK, -⟩ := F
  unfold c_getfN at hc
  split at hc
  next n hd =>
    have hq := flN_ok _ (List.mem_of_getElem? (beq_iff_eq.mp hc))
    obtain ⟨C, T, N, hcl, hk, hlink⟩ := hq
    dsimp only at hcl hk hlink
    have hok := cls_ok _ _ _ _ hcl
    unfold s_getf at hs
    split at hs
    next a rest =>
      split at hs
      next hsh =>
        cases hs
        simp only [Nat.sub_self, Nat.add_zero] at k
        have hN : fN (p_c i) = N := hok.2.2.2.2.2.2
        refine va_getN hx hb hts hok.1 hown hK.1 (va_P1 (hW.at hsh)) 0 (fs := (List.range (fN (p_c i))).map (fval G h (p_c i) a)) rfl hcl (p_e i) hk (va_Nw.use rfl (hK.2 _ hlink)) (fun x hx => by rw [hok.2.2.2.1 _ hk] at hx; exact hx) (v := tr G (pval h (p_c i) a (p_e i))) ?_ hd (k H locs rls hW hS hL)
        rw [tr_pval]
        exact fs_get G h _ _ (by rw [hN]; exact hk)
      · cases hs
    · cases hs
  · cases hc
theorem fits_ref {ty : FieldType} {a : Nat} (h : fits ty (.ref a) = true) (b : Nat) : narrow ty (.ref b) = .ref b ∧ fits ty (.ref b) = true := by
  cases ty <;> first | (exact ⟨rfl, rfl⟩) | (cases h)
def putv (h : PH) (ci o k : Nat) (v : Value) : Option PH := match fkd (fty ci k), v with
  | 0, .int x => some (w_i h o k x)
  | 1, .long x => some (w_l h o k x)
  | 2, .ref a => some (w_r h o k (some a))
  | 2, .null => some (w_r h o k none)
  | _, _ => none
def s_putf : PSem := fun i pc ls st h => match st with
  | v :: .ref o :: rest => if h_sh h o = some (0, p_c i) ∧ narrow (fty (p_c i) (p_e i)) v = v ∧ fits (fty (p_c i) (p_e i)) v = true then (putv h (p_c i) o (p_e i) v).map (fun h' => (pc + 3, ls, rest, h')) else none
  | _ => none
theorem putv_spec (G : Gx) {h h' : PH} {ci o k : Nat} {v : Value} (he : putv h ci o k v = some h') (hn : narrow (fty ci k) v = v) (hf : fits (fty ci k) v = true) :
    narrow (fty ci k) (tr G v) = tr G v ∧ fits (fty ci k) (tr G v) = true ∧ h_sh h' = h_sh h ∧ h_ct h' = h_ct h ∧ h_sl h' = h_sl h ∧ h_sc h' = h_sc h ∧ (∀ c', c' ≠ o → h_i h' c' = h_i h c' ∧ h_l h' c' = h_l h c' ∧ h_r h' c' = h_r h c') ∧ fval G h' ci o k = tr G v ∧ ∀ j, j ≠ k → fval G h' ci o j = fval G h ci o j := by
  unfold putv at he
  split at he
  next x hk =>
    cases he
    exact ⟨hn, hf, rfl, rfl, rfl, rfl, w_i_oth _ _ _ _, by simp [fval, hk, w_i, h_i, up2, tr], fun j hj => by simp [fval, w_i, h_i, h_l, h_r, up2, hj]⟩
  next x hk =>
    cases he
    exact ⟨hn, hf, rfl, rfl, rfl, rfl, w_l_oth _ _ _ _, by simp [fval, hk, w_l, h_l, up2, tr], fun j hj => by simp [fval, w_l, h_i, h_l, h_r, up2, hj]⟩
  next a hk =>
    cases he
    exact ⟨(fits_ref hf _).1, (fits_ref hf _).2, rfl, rfl, rfl, rfl, w_r_oth _ _ _ _, by simp [fval, hk, w_r, h_r, up2, tr, va_rf], fun j hj => by simp [fval, w_r, h_i, h_l, h_r, up2, hj]⟩
  next hk =>
    cases he
    exact ⟨hn, hf, rfl, rfl, rfl, rfl, w_r_oth _ _ _ _, by simp [fval, hk, w_r, h_r, up2, tr, va_rf], fun j hj => by simp [fval, w_r, h_i, h_l, h_r, up2, hj]⟩
  · cases he
def c_putf : PChk := fun o ini cc pc i => match decode cc pc with
  | .ok (.putfield n, 3) => flT[p_b i]? == some (o, n, p_c i, p_e i) && (match cls[p_c i]? with
    | some (_, T, _) => (T (p_e i)).2.2.2 == false
    | none => false)
  | _ => false
theorem z_putf : SoundP c_putf s_putf := by
  intro G p l e R s m args below meth c Q o ini cc nL i pc pls pst h r H locs cells slots rls F hc hs hW hS hL _ _ k
  obtain ⟨hx, hb, hml, hown, hts, hK, hmn, -⟩ := F
  unfold c_putf at hc
  split at hc
  next n hd =>
    simp only [Bool.and_eq_true] at hc
    have hq := flT_ok _ (List.mem_of_getElem? (beq_iff_eq.mp hc.1))
    obtain ⟨C, T, N, hcl, hk, hlink⟩ := hq
    dsimp only at hcl hk hlink
    have hfin := hc.2
    rw [hcl] at hfin
    have hfin := beq_iff_eq.mp hfin
    try dsimp only at hfin
    have hok := cls_ok _ _ _ _ hcl
    unfold s_putf at hs
    split at hs
    next v a rest =>
      split at hs
      next hcond =>
        obtain ⟨hsh, hn, hf⟩ := hcond
        obtain ⟨h', hp, e0⟩ := Option.map_eq_some_iff.mp hs
        subst e0
        obtain ⟨p1, p2, p3, p4, p5, p6, p7, p8, p9⟩ := putv_spec G hp hn hf
        dsimp only at k
        simp only [p4, p5, Nat.sub_self, Nat.add_zero] at k
        have hN : fN (p_c i) = N := hok.2.2.2.2.2.2
        refine q_put hx hb hts hok hown hK.1 (fs := (List.range (fN (p_c i))).map (fval G h (p_c i) a)) (hW.at hsh) hcl (p_e i) hk (hts _ hlink) hfin p1 p2 (by simp; rw [hN]; exact hk) hd fun H1 hat z oq => ?_
        rw [fs_set p8 p9] at hat
        exact k H1 _ rls (hW.put hsh z oq hat p3 p4 p6 p7) (hS.put z oq (Ax_ad G a)) hL
      · cases hs
    · cases hs
  · cases hc
def c_putfN : PChk := fun o ini cc pc i => match decode cc pc with
  | .ok (.putfield n, 3) => flN[p_b i]? == some (o, n, p_c i, p_e i) && (match cls[p_c i]? with
    | some (_, T, _) => (T (p_e i)).2.2.2 == false
    | none => false)
  | _ => false
theorem z_putfN : SoundP c_putfN s_putf := by
  intro G p l e R s m args below meth c Q o ini cc nL i pc pls pst h r H locs cells slots rls F hc hs hW hS hL _ _ k
  obtain ⟨hx, hb, hml, hown, hts, hK, hmn, -⟩ := F
  unfold c_putfN at hc
  split at hc
  next n hd =>
    simp only [Bool.and_eq_true] at hc
    have hq := flN_ok _ (List.mem_of_getElem? (beq_iff_eq.mp hc.1))
    obtain ⟨C, T, N, hcl, hk, hlink⟩ := hq
    dsimp only at hcl hk hlink
    have hfin := hc.2
    rw [hcl] at hfin
    have hfin := beq_iff_eq.mp hfin
    try dsimp only at hfin
    have hok := cls_ok _ _ _ _ hcl
    unfold s_putf at hs
    split at hs
    next v a rest =>
      split at hs
      next hcond =>
        obtain ⟨hsh, hn, hf⟩ := hcond
        obtain ⟨h', hp, e0⟩ := Option.map_eq_some_iff.mp hs
        subst e0
        obtain ⟨p1, p2, p3, p4, p5, p6, p7, p8, p9⟩ := putv_spec G hp hn hf
        dsimp only at k
        simp only [p4, p5, Nat.sub_self, Nat.add_zero] at k
        have hN : fN (p_c i) = N := hok.2.2.2.2.2.2
        refine q_putN hx hb hts hok hown hK.1 (fs := (List.range (fN (p_c i))).map (fval G h (p_c i) a)) (hW.at hsh) hcl (p_e i) hk (va_Nw.use rfl (hK.2 _ hlink)) hfin p1 p2 (by simp; rw [hN]; exact hk) hd fun H1 hat z oq => ?_
        rw [fs_set p8 p9] at hat
        exact k H1 _ rls (hW.put hsh z oq hat p3 p4 p6 p7) (hS.put z oq (Ax_ad G a)) hL
      · cases hs
    · cases hs
  · cases hc
def c_putfF : PChk := fun o ini cc pc i => match decode cc pc with
  | .ok (.putfield n, 3) => flT[p_b i]? == some (o, n, p_c i, p_e i) && (match cls[p_c i]? with
    | some (_, T, _) => (T (p_e i)).2.2.2 == true
    | none => false) && (ini && (match cls[p_c i]? with
    | some (C, _, _) => cN o == C
    | none => false))
  | _ => false
theorem z_putfF : SoundP c_putfF s_putf := by
  intro G p l e R s m args below meth c Q o ini cc nL i pc pls pst h r H locs cells slots rls F hc hs hW hS hL _ _ k
  obtain ⟨hx, hb, hml, hown, hts, hK, hmn, -⟩ := F
  unfold c_putfF at hc
  split at hc
  next n hd =>
    simp only [Bool.and_eq_true] at hc
    have hq := flT_ok _ (List.mem_of_getElem? (beq_iff_eq.mp hc.1.1))
    obtain ⟨C, T, N, hcl, hk, hlink⟩ := hq
    dsimp only at hcl hk hlink
    have hfin := hc.1.2
    rw [hcl] at hfin
    have hfin := beq_iff_eq.mp hfin
    try dsimp only at hfin
    have hok := cls_ok _ _ _ _ hcl
    have hC := hc.2.2
    rw [hcl] at hC
    have hC := beq_iff_eq.mp hC
    try dsimp only at hC
    unfold s_putf at hs
    split at hs
    next v a rest =>
      split at hs
      next hcond =>
        obtain ⟨hsh, hn, hf⟩ := hcond
        obtain ⟨h', hp, e0⟩ := Option.map_eq_some_iff.mp hs
        subst e0
        obtain ⟨p1, p2, p3, p4, p5, p6, p7, p8, p9⟩ := putv_spec G hp hn hf
        dsimp only at k
        simp only [p4, p5, Nat.sub_self, Nat.add_zero] at k
        have hN : fN (p_c i) = N := hok.2.2.2.2.2.2
        refine q_putF hx hb hts hok (hC ▸ hown) hK.1 (fs := (List.range (fN (p_c i))).map (fval G h (p_c i) a)) (hW.at hsh) hcl (p_e i) hk (by rw [hC] at hlink; exact hts _ hlink) hfin (hmn hc.2.1) p1 p2 (by simp; rw [hN]; exact hk) hd fun H1 hat z oq => ?_
        rw [fs_set p8 p9] at hat
        exact k H1 _ rls (hW.put hsh z oq hat p3 p4 p6 p7) (hS.put z oq (Ax_ad G a)) hL
      · cases hs
    · cases hs
  · cases hc
