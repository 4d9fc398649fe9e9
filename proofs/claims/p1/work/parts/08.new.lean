/-! new cells, the script, switches, Object's constructor, arraycopy -/
theorem Wh.new {G : Gx} {h : PH} {H H1 : Heap} {q : Nat × Nat} {n : Nat} (hW : Wh G h H) (z : H1.size = H.size + 1) (oq : ∀ x : Nat, x < H.size → H1[x]? = H[x]?) (hat : va_at G.2.2.2.2.1 cls (G.1 + h_ct h, cel G (h_new h q n) (h_ct h) q) H1) : Wh G (h_new h q n) H1 := by
  refine ⟨by rw [z, hW.1]; rfl, hW.2.1, fun c' q' hs' => ?_⟩
  by_cases hc : c' = h_ct h
  · subst hc
    simp only [h_sh, h_new, if_true] at hs'
    cases hs'
    exact ⟨Nat.lt_succ_self _, hat⟩
  · have hs2 : h_sh h c' = some q' := by simpa [h_sh, h_new, hc] using hs'
    obtain ⟨h1, h2⟩ := hW.2.2 c' q' hs2
    refine ⟨Nat.lt_succ_of_lt h1, ?_⟩
    rw [cel_congr (h := h) (h' := h_new h q n) (upr_ne _ _ hc) (upr_ne _ _ hc) (upr_ne _ _ hc)]
    exact h2.kept (oq _ (by show G.1 + c' < _; rw [hW.1]; omega))
theorem va_S.born {A : Nat → Prop} {H0 H H1 : Heap} {locs : List Loc} (hS : va_S A H0 H locs) (z : H1.size = H.size + 1) (oq : ∀ x : Nat, x < H.size → H1[x]? = H[x]?) : va_S A H0 H1 locs :=
  ⟨Nat.le_trans hS.1 (by omega), fun x h1 h2 => (oq x (Nat.lt_of_lt_of_le h1 hS.1)).trans (hS.2.1 x h1 h2), hS.2.2⟩
theorem fval_new (G : Gx) (h : PH) (q : Nat × Nat) (n ci k : Nat) : fval G (h_new h q n) ci (h_ct h) k = defaultValue (fty ci k) := by
  have e1 : h_i (h_new h q n) (h_ct h) = fun _ => 0 := upr_row _ _ _
  have e2 : h_l (h_new h q n) (h_ct h) = fun _ => 0 := upr_row _ _ _
  have e3 : h_r (h_new h q n) (h_ct h) = fun _ => none := upr_row _ _ _
  have hty : fty ci k = .int ∨ fty ci k = .long ∨ fty ci k = .boolean ∨ fty ci k = .byte ∨ (∃ x, fty ci k = .object x) ∨ (∃ x, fty ci k = .array x) := by
    unfold fty
    match ci with
    | 0 => (show ft0 k = _ ∨ ft0 k = _ ∨ ft0 k = _ ∨ ft0 k = _ ∨ (∃ x, ft0 k = _) ∨ (∃ x, ft0 k = _)); unfold ft0; split <;> simp
    | 1 => (show ft1 k = _ ∨ ft1 k = _ ∨ ft1 k = _ ∨ ft1 k = _ ∨ (∃ x, ft1 k = _) ∨ (∃ x, ft1 k = _)); unfold ft1; split <;> simp
    | 2 => (show ft2 k = _ ∨ ft2 k = _ ∨ ft2 k = _ ∨ ft2 k = _ ∨ (∃ x, ft2 k = _) ∨ (∃ x, ft2 k = _)); unfold ft2; split <;> simp
    | 3 => (show ft3 k = _ ∨ ft3 k = _ ∨ ft3 k = _ ∨ ft3 k = _ ∨ (∃ x, ft3 k = _) ∨ (∃ x, ft3 k = _)); unfold ft3; split <;> simp
    | 4 => (show ft4 k = _ ∨ ft4 k = _ ∨ ft4 k = _ ∨ ft4 k = _ ∨ (∃ x, ft4 k = _) ∨ (∃ x, ft4 k = _)); unfold ft4; split <;> simp
    | 5 => (show ft5 k = _ ∨ ft5 k = _ ∨ ft5 k = _ ∨ ft5 k = _ ∨ (∃ x, ft5 k = _) ∨ (∃ x, ft5 k = _)); unfold ft5; split <;> simp
    | 6 => (show ft6 k = _ ∨ ft6 k = _ ∨ ft6 k = _ ∨ ft6 k = _ ∨ (∃ x, ft6 k = _) ∨ (∃ x, ft6 k = _)); unfold ft6; split <;> simp
    | 7 => (show ft7 k = _ ∨ ft7 k = _ ∨ ft7 k = _ ∨ ft7 k = _ ∨ (∃ x, ft7 k = _) ∨ (∃ x, ft7 k = _)); unfold ft7; split <;> simp
    | 8 => (show ft8 k = _ ∨ ft8 k = _ ∨ ft8 k = _ ∨ ft8 k = _ ∨ (∃ x, ft8 k = _) ∨ (∃ x, ft8 k = _)); unfold ft8; split <;> simp
    | 9 => (show ft9 k = _ ∨ ft9 k = _ ∨ ft9 k = _ ∨ ft9 k = _ ∨ (∃ x, ft9 k = _) ∨ (∃ x, ft9 k = _)); unfold ft9; split <;> simp
    | 10 => (show ft10 k = _ ∨ ft10 k = _ ∨ ft10 k = _ ∨ ft10 k = _ ∨ (∃ x, ft10 k = _) ∨ (∃ x, ft10 k = _)); unfold ft10; split <;> simp
    | 11 => (show ft11 k = _ ∨ ft11 k = _ ∨ ft11 k = _ ∨ ft11 k = _ ∨ (∃ x, ft11 k = _) ∨ (∃ x, ft11 k = _)); unfold ft11; split <;> simp
    | 12 => (show ft12 k = _ ∨ ft12 k = _ ∨ ft12 k = _ ∨ ft12 k = _ ∨ (∃ x, ft12 k = _) ∨ (∃ x, ft12 k = _)); unfold ft12; split <;> simp
    | ci + 13 => left; simp [ftL]
  simp only [fval, e1, e2, e3]
  rcases hty with h | h | h | h | ⟨x, h⟩ | ⟨x, h⟩ <;> rw [h] <;> rfl
def s_new : PSem := fun i pc ls st h => some (pc + 3, ls, .ref (h_ct h) :: st, h_new h (0, p_c i) (fN (p_c i)))
def c_new : PChk := fun o _ cc pc i => match decode cc pc with
  | .ok (.new n, 3) => (match cls[p_c i]? with
    | some (C, _, _) => decide (lw_tbl[p_b i]? = some (.classLink (cN o) n C)) && goodWord (.classLink (cN o) n C)
    | none => false)
  | _ => false
theorem z_new : SoundP c_new s_new := by
  intro G p l e R s m args below meth c Q o ini cc nL i pc pls pst h r H locs cells slots rls F hc hs hW hS hL hcl hsl k
  obtain ⟨hx, hb, hml, hown, hts, hK, -⟩ := F
  unfold c_new at hc
  split at hc
  next n hd =>
    split at hc
    next C T N hcls =>
      simp only [Bool.and_eq_true, decide_eq_true_eq] at hc
      have hok := cls_ok _ _ _ _ hcls
      obtain ⟨o1, o2, o3, o4, o5, o6, hN⟩ := hok
      cases hs
      dsimp only at k hcl hsl
      have ec : h_ct (h_new h (0, p_c i) (fN (p_c i))) - h_ct h = 1 := by show h_ct h + 1 - h_ct h = 1; omega
      have el : h_sl (h_new h (0, p_c i) (fN (p_c i))) - h_sl h = N := by show h_sl h + fN (p_c i) - h_sl h = N; omega
      rw [ec] at k hcl
      rw [el] at k hsl
      have hKn := hK.1.1 _ _ hcls
      refine W.newcK hx hb hown (hts _ (gt_in _ hc.1 hc.2)) (hts _ o5) (hts _ o6) rfl hd hcl hsl hKn.2.1 rfl fun H1 kC hkC e1 z oq => ?_
      have hz : H.size = G.1 + h_ct h := hW.1
      have k1 := k H1 locs rls (hW.new z oq ?_) (hS.born z oq) hL
      · show W p l e R s m args below meth c H1 locs (cells + 1) (slots + N) Q (F0 m (pc + 3) rls (.ref H.size :: _))
        rw [hz]
        exact k1
      · show ∃ r : vw_C, cls[p_c i]? = some r ∧ t_OB _ _ _ _ _ _
        rw [hz] at e1
        refine ⟨_, hcls, (u_born (fty (p_c i)) hts o1 hKn hkC e1 o2).to fun j hj => ?_⟩
        show _ = vp_V ((List.range (fN (p_c i))).map (fval G _ (p_c i) (h_ct h))) j
        have h2 : ((List.range (fN (p_c i))).map (fval G (h_new h (0, p_c i) (fN (p_c i))) (p_c i) (h_ct h)))[j]? = some _ := fs_get G _ _ _ (by rw [hN]; exact hj)
        rw [fval_new] at h2
        simp only [vp_V, List.getD_eq_getElem?_getD, h2]
        rfl
    · cases hc
  · cases hc
def s_newI : PSem := fun i pc ls st h => match st with
  | .int x :: rest => if x < 0 ∨ 60000000 < x.toNatClampNeg then none else some (pc + 2, ls, .ref (h_ct h) :: rest, h_new h (1, x.toNatClampNeg) x.toNatClampNeg)
  | _ => none
def c_newI : PChk := fun _ _ cc pc _ => match decode cc pc with
  | .ok (.newarray .int, 2) => true
  | _ => false
theorem z_newI : SoundP c_newI s_newI := by
  intro G p l e R s m args below meth c Q o ini cc nL i pc pls pst h r H locs cells slots rls F hc hs hW hS hL hcl hsl k
  obtain ⟨hx, hb, hml, hown, hts, hK, -⟩ := F
  unfold c_newI at hc
  split at hc
  next hd =>
    unfold s_newI at hs
    split at hs
    next x rest =>
      split at hs
      · cases hs
      next hne =>
        cases hs
        dsimp only at k hcl hsl
        have ec : h_ct (h_new h (1, x.toNatClampNeg) x.toNatClampNeg) - h_ct h = 1 := by show h_ct h + 1 - h_ct h = 1; omega
        have el : h_sl (h_new h (1, x.toNatClampNeg) x.toNatClampNeg) - h_sl h = x.toNatClampNeg := by show h_sl h + x.toNatClampNeg - h_sl h = _; omega
        rw [ec] at k hcl
        rw [el] at k hsl
        have hz : H.size = G.1 + h_ct h := hW.1
        have hcb : x.toNatClampNeg * componentBytes .int ≤ 536870912 := by
          have : componentBytes .int ≤ 8 := by decide
          have h3 : x.toNatClampNeg ≤ 60000000 := Nat.not_lt.mp fun q => hne (Or.inr q)
          exact Nat.le_trans (Nat.mul_le_mul h3 this) (by decide)
        refine va_newaK (atype := .int) (g := F0 m pc rls _) hx hb (hts _ (gt_in 269 (by decide +kernel) rfl)) rfl hd rfl (fun q => hne (Or.inl q)) rfl hcb hcl hsl hz fun H1 cA e1 z oq hAr hNm => ?_
        have hcA : G.2.2.2.2.2 .int = cA := by
          have h1 := (hK.1.2 0 _ rfl).2
          exact Option.some.inj (h1.symm.trans hNm)
        refine k H1 locs rls (hW.new (by rw [z, hz]) (by rw [hz]; exact oq) ?_) (hS.born (by rw [z, hz]) (by rw [hz]; exact oq)) hL
        show H1[G.1 + h_ct h]? = some (vp_cell (G.2.2.2.2.2 .int) (x.toNatClampNeg, .inl (h_i (h_new h (1, x.toNatClampNeg) x.toNatClampNeg) (h_ct h))))
        rw [show h_i (h_new h (1, x.toNatClampNeg) x.toNatClampNeg) (h_ct h) = fun _ => 0 from upr_row _ _ _, hcA, e1]
        rfl
    · cases hs
  · cases hc
def s_newB : PSem := fun i pc ls st h => match st with
  | .int x :: rest => if x < 0 ∨ 60000000 < x.toNatClampNeg then none else some (pc + 2, ls, .ref (h_ct h) :: rest, h_new h (2, x.toNatClampNeg) x.toNatClampNeg)
  | _ => none
def c_newB : PChk := fun _ _ cc pc _ => match decode cc pc with
  | .ok (.newarray .byte, 2) => true
  | _ => false
theorem z_newB : SoundP c_newB s_newB := by
  intro G p l e R s m args below meth c Q o ini cc nL i pc pls pst h r H locs cells slots rls F hc hs hW hS hL hcl hsl k
  obtain ⟨hx, hb, hml, hown, hts, hK, -⟩ := F
  unfold c_newB at hc
  split at hc
  next hd =>
    unfold s_newB at hs
    split at hs
    next x rest =>
      split at hs
      · cases hs
      next hne =>
        cases hs
        dsimp only at k hcl hsl
        have ec : h_ct (h_new h (2, x.toNatClampNeg) x.toNatClampNeg) - h_ct h = 1 := by show h_ct h + 1 - h_ct h = 1; omega
        have el : h_sl (h_new h (2, x.toNatClampNeg) x.toNatClampNeg) - h_sl h = x.toNatClampNeg := by show h_sl h + x.toNatClampNeg - h_sl h = _; omega
        rw [ec] at k hcl
        rw [el] at k hsl
        have hz : H.size = G.1 + h_ct h := hW.1
        have hcb : x.toNatClampNeg * componentBytes .byte ≤ 536870912 := by
          have : componentBytes .byte ≤ 8 := by decide
          have h3 : x.toNatClampNeg ≤ 60000000 := Nat.not_lt.mp fun q => hne (Or.inr q)
          exact Nat.le_trans (Nat.mul_le_mul h3 this) (by decide)
        refine va_newaK (atype := .byte) (g := F0 m pc rls _) hx hb (hts _ (gt_in 267 (by decide +kernel) rfl)) rfl hd rfl (fun q => hne (Or.inl q)) rfl hcb hcl hsl hz fun H1 cA e1 z oq hAr hNm => ?_
        have hcA : G.2.2.2.2.2 .byte = cA := by
          have h1 := (hK.1.2 1 _ rfl).2
          exact Option.some.inj (h1.symm.trans hNm)
        refine k H1 locs rls (hW.new (by rw [z, hz]) (by rw [hz]; exact oq) ?_) (hS.born (by rw [z, hz]) (by rw [hz]; exact oq)) hL
        show H1[G.1 + h_ct h]? = some (vp_cell (G.2.2.2.2.2 .byte) (x.toNatClampNeg, .inl (h_i (h_new h (2, x.toNatClampNeg) x.toNatClampNeg) (h_ct h))))
        rw [show h_i (h_new h (2, x.toNatClampNeg) x.toNatClampNeg) (h_ct h) = fun _ => 0 from upr_row _ _ _, hcA, e1]
        rfl
    · cases hs
  · cases hc
def s_newZ : PSem := fun i pc ls st h => match st with
  | .int x :: rest => if x < 0 ∨ 60000000 < x.toNatClampNeg then none else some (pc + 2, ls, .ref (h_ct h) :: rest, h_new h (3, x.toNatClampNeg) x.toNatClampNeg)
  | _ => none
def c_newZ : PChk := fun _ _ cc pc _ => match decode cc pc with
  | .ok (.newarray .boolean, 2) => true
  | _ => false
theorem z_newZ : SoundP c_newZ s_newZ := by
  intro G p l e R s m args below meth c Q o ini cc nL i pc pls pst h r H locs cells slots rls F hc hs hW hS hL hcl hsl k
  obtain ⟨hx, hb, hml, hown, hts, hK, -⟩ := F
  unfold c_newZ at hc
  split at hc
  next hd =>
    unfold s_newZ at hs
    split at hs
    next x rest =>
      split at hs
      · cases hs
      next hne =>
        cases hs
        dsimp only at k hcl hsl
        have ec : h_ct (h_new h (3, x.toNatClampNeg) x.toNatClampNeg) - h_ct h = 1 := by show h_ct h + 1 - h_ct h = 1; omega
        have el : h_sl (h_new h (3, x.toNatClampNeg) x.toNatClampNeg) - h_sl h = x.toNatClampNeg := by show h_sl h + x.toNatClampNeg - h_sl h = _; omega
        rw [ec] at k hcl
        rw [el] at k hsl
        have hz : H.size = G.1 + h_ct h := hW.1
        have hcb : x.toNatClampNeg * componentBytes .boolean ≤ 536870912 := by
          have : componentBytes .boolean ≤ 8 := by decide
          have h3 : x.toNatClampNeg ≤ 60000000 := Nat.not_lt.mp fun q => hne (Or.inr q)
          exact Nat.le_trans (Nat.mul_le_mul h3 this) (by decide)
        refine va_newaK (atype := .boolean) (g := F0 m pc rls _) hx hb (hts _ (gt_in 339 (by decide +kernel) rfl)) rfl hd rfl (fun q => hne (Or.inl q)) rfl hcb hcl hsl hz fun H1 cA e1 z oq hAr hNm => ?_
        have hcA : G.2.2.2.2.2 .boolean = cA := by
          have h1 := (hK.1.2 2 _ rfl).2
          exact Option.some.inj (h1.symm.trans hNm)
        refine k H1 locs rls (hW.new (by rw [z, hz]) (by rw [hz]; exact oq) ?_) (hS.born (by rw [z, hz]) (by rw [hz]; exact oq)) hL
        show H1[G.1 + h_ct h]? = some (vp_cell (G.2.2.2.2.2 .boolean) (x.toNatClampNeg, .inl (h_i (h_new h (3, x.toNatClampNeg) x.toNatClampNeg) (h_ct h))))
        rw [show h_i (h_new h (3, x.toNatClampNeg) x.toNatClampNeg) (h_ct h) = fun _ => 0 from upr_row _ _ _, hcA, e1]
        rfl
    · cases hs
  · cases hc
def s_newL : PSem := fun i pc ls st h => match st with
  | .int x :: rest => if x < 0 ∨ 60000000 < x.toNatClampNeg then none else some (pc + 2, ls, .ref (h_ct h) :: rest, h_new h (4, x.toNatClampNeg) x.toNatClampNeg)
  | _ => none
def c_newL : PChk := fun _ _ cc pc _ => match decode cc pc with
  | .ok (.newarray .long, 2) => true
  | _ => false
theorem z_newL : SoundP c_newL s_newL := by
  intro G p l e R s m args below meth c Q o ini cc nL i pc pls pst h r H locs cells slots rls F hc hs hW hS hL hcl hsl k
  obtain ⟨hx, hb, hml, hown, hts, hK, -⟩ := F
  unfold c_newL at hc
  split at hc
  next hd =>
    unfold s_newL at hs
    split at hs
    next x rest =>
      split at hs
      · cases hs
      next hne =>
        cases hs
        dsimp only at k hcl hsl
        have ec : h_ct (h_new h (4, x.toNatClampNeg) x.toNatClampNeg) - h_ct h = 1 := by show h_ct h + 1 - h_ct h = 1; omega
        have el : h_sl (h_new h (4, x.toNatClampNeg) x.toNatClampNeg) - h_sl h = x.toNatClampNeg := by show h_sl h + x.toNatClampNeg - h_sl h = _; omega
        rw [ec] at k hcl
        rw [el] at k hsl
        have hz : H.size = G.1 + h_ct h := hW.1
        have hcb : x.toNatClampNeg * componentBytes .long ≤ 536870912 := by
          have : componentBytes .long ≤ 8 := by decide
          have h3 : x.toNatClampNeg ≤ 60000000 := Nat.not_lt.mp fun q => hne (Or.inr q)
          exact Nat.le_trans (Nat.mul_le_mul h3 this) (by decide)
        refine va_newaK (atype := .long) (g := F0 m pc rls _) hx hb (hts _ (gt_in 268 (by decide +kernel) rfl)) rfl hd rfl (fun q => hne (Or.inl q)) rfl hcb hcl hsl hz fun H1 cA e1 z oq hAr hNm => ?_
        have hcA : G.2.2.2.2.2 .long = cA := by
          have h1 := (hK.1.2 3 _ rfl).2
          exact Option.some.inj (h1.symm.trans hNm)
        refine k H1 locs rls (hW.new (by rw [z, hz]) (by rw [hz]; exact oq) ?_) (hS.born (by rw [z, hz]) (by rw [hz]; exact oq)) hL
        show H1[G.1 + h_ct h]? = some (vp_cell (G.2.2.2.2.2 .long) (x.toNatClampNeg, .inr (.inl (h_l (h_new h (4, x.toNatClampNeg) x.toNatClampNeg) (h_ct h)))))
        rw [show h_l (h_new h (4, x.toNatClampNeg) x.toNatClampNeg) (h_ct h) = fun _ => 0 from upr_row _ _ _, hcA, e1]
        rfl
    · cases hs
  · cases hc
def s_sload : PSem := fun i pc ls st h => match st with
  | .int x :: .retAddr _ :: rest => if x < 0 ∨ (h_sc h).1 ≤ x.toNatClampNeg then none else some (pc + 1, ls, .int ((h_sc h).2 x.toNatClampNeg) :: rest, h)
  | _ => none
def c_sload : PChk := fun o _ cc pc _ => match decode cc pc with
  | .ok (.iaload, 1) => o == 13
  | _ => false
theorem z_sload : SoundP c_sload s_sload := by
  intro G p l e R s m args below meth c Q o ini cc nL i pc pls pst h r H locs cells slots rls F hc hs hW hS hL _ _ k
  obtain ⟨hx, hb, hml, hown, hts, hK, -, -, -, -, hsc⟩ := F
  unfold c_sload at hc
  split at hc
  next hd =>
    obtain ⟨hX, hbl, hbA⟩ := hsc (beq_iff_eq.mp hc)
    unfold s_sload at hs
    split at hs
    next x a rest =>
      split at hs
      · cases hs
      next hne =>
        cases hs
        simp only [Nat.sub_self, Nat.add_zero] at k
        rw [hW.2.1] at hne k
        exact va_sld hx hb hX hbl hbA hS hne hd (k H locs rls hW hS hL)
    · cases hs
  · cases hc
def s_slen : PSem := fun i pc ls st h => match st with
  | .retAddr _ :: rest => some (pc + 1, ls, .int (Int32.ofNat (h_sc h).1) :: rest, h)
  | _ => none
def c_slen : PChk := fun o _ cc pc _ => match decode cc pc with
  | .ok (.arraylength, 1) => o == 13
  | _ => false
theorem z_slen : SoundP c_slen s_slen := by
  intro G p l e R s m args below meth c Q o ini cc nL i pc pls pst h r H locs cells slots rls F hc hs hW hS hL _ _ k
  obtain ⟨hx, hb, hml, hown, hts, hK, -, -, -, -, hsc⟩ := F
  unfold c_slen at hc
  split at hc
  next hd =>
    obtain ⟨hX, hbl, hbA⟩ := hsc (beq_iff_eq.mp hc)
    unfold s_slen at hs
    split at hs
    next a rest =>
      cases hs
      simp only [Nat.sub_self, Nat.add_zero] at k
      rw [hW.2.1] at k
      exact va_slen hx hb hX hbl hbA hS hd (k H locs rls hW hS hL)
    · cases hs
  · cases hc
def swT : List (Int × List Nat × Nat) := [(0, [40, 50, 60], 77), (0, [52, 60, 68, 76, 84, 92, 100, 105, 121], 137), (0, [56, 61, 66, 71, 76, 81, 86, 91, 105], 119), (0, [184, 247, 270, 283, 306, 339, 362, 395, 408, 431, 474, 487, 500, 513, 537, 550, 573, 587, 620, 633, 656, 689, 712, 725, 778, 811, 845, 908, 922, 945, 988, 1011, 1034, 1083], 1096)]
def s_switch : PSem := fun i pc ls st h => match st with
  | .int x :: rest => (match swT[p_b i]? with
    | some (lo, tg, df) => if x.toInt < lo ∨ lo + (tg.length : Int) ≤ x.toInt then some (df, ls, rest, h) else (tg[(x.toInt - lo).toNat]?).map (fun t => (t, ls, rest, h))
    | none => none)
  | _ => none
def c_switch : PChk := fun _ _ cc pc i => match decode cc pc with
  | .ok (.tableswitch d lo hi offs, _) => (match swT[p_b i]? with
    | some (lo', tg, df) => lo == lo' && hi + 1 == lo + (tg.length : Int) && (pc : Int) + d == (df : Int) && (offs.toList.map (fun x => (pc : Int) + x) == tg.map (fun t : Nat => (t : Int)))
    | none => false)
  | _ => false
theorem z_switch : SoundP c_switch s_switch := by
  intro G p l e R s m args below meth c Q o ini cc nL i pc pls pst h r H locs cells slots rls F hc hs hW hS hL _ _ k
  obtain ⟨hx, hb, -⟩ := F
  unfold c_switch at hc
  split at hc
  next d lo hi offs n hd =>
    unfold s_switch at hs
    split at hs
    next x rest =>
      split at hs
      next lo' tg df hsw =>
        rw [hsw] at hc
        simp only [Bool.and_eq_true, beq_iff_eq] at hc
        obtain ⟨⟨⟨h1, h2⟩, h3⟩, h4⟩ := hc
        subst h1
        split at hs
        next hout =>
          cases hs
          simp only [Nat.sub_self, Nat.add_zero] at k
          exact lv_tableOut hx hb hd (by omega) h3 (k H locs rls hW hS hL)
        next hin =>
          obtain ⟨t, ht, e0⟩ := Option.map_eq_some_iff.mp hs
          subst e0
          simp only [Nat.sub_self, Nat.add_zero] at k
          have h5 : (offs.toList.map (fun x => (pc : Int) + x))[(x.toInt - lo).toNat]? = some (t : Int) := by
            rw [h4, List.getElem?_map, ht]; rfl
          rw [List.getElem?_map] at h5
          obtain ⟨off, ho, e5⟩ := Option.map_eq_some_iff.mp h5
          exact lv_tableIn hx hb hd (by omega) (by omega) (by rw [← Array.getElem?_toList]; exact ho) e5 (k H locs rls hW hS hL)
      · cases hs
    · cases hs
  · cases hc
theorem cat_sum (G : Gx) : ∀ (st : List Value), ((st.map (tr G)).map fun v => v.category).sum ≤ 2 * st.length
  | [] => by simp
  | v :: r => by
    have := cat_sum G r
    have h2 : (tr G v).category ≤ 2 := by rcases lv_cat (tr G v) with h | h <;> omega
    simp only [List.map_cons, List.sum_cons, List.length_cons]
    omega
def s_oinit : PSem := fun i pc ls st h => match st with
  | .ref _ :: rest => if rest.length ≤ 4 then some (pc + 3, ls, rest, h) else none
  | _ => none
def c_oinit : PChk := fun o _ cc pc i => match decode cc pc with
  | .ok (.invokespecial n, 3) => decide (lw_tbl[p_b i]? = some (.methodLink (cN o) n Lib.objectInit)) && goodWord (.methodLink (cN o) n Lib.objectInit)
  | _ => false
theorem z_oinit : SoundP c_oinit s_oinit := by
  intro G p l e R s m args below meth c Q o ini cc nL i pc pls pst h r H locs cells slots rls F hc hs hW hS hL _ _ k
  obtain ⟨hx, hb, hml, hown, hts, hK, -, hfr, hlo, -⟩ := F
  unfold c_oinit at hc
  split at hc
  next n hd =>
    simp only [Bool.and_eq_true, decide_eq_true_eq] at hc
    unfold s_oinit at hs
    split at hs
    next a rest =>
      split at hs
      next hr =>
        cases hs
        simp only [Nat.sub_self, Nat.add_zero] at k
        have h8 : ((rest.map (tr G)).map fun v => v.category).sum ≤ 8 := Nat.le_trans (cat_sum G rest) (by omega)
        exact W.objInit hx hb hown (hts _ (gt_in _ hc.1 hc.2)) (hts _ (gt_in 197 (by decide +kernel) rfl)) (hts _ (gt_in 198 (by decide +kernel) rfl)) rfl (hL.1.1.trans hml.symm) rfl hd hfr (Nat.le_trans (Nat.add_le_add_right (lv_room (m := m) (pc := pc) (ls := rls) (rest := []) h8) 12) (by omega)) (k H locs rls hW hS hL)
      · cases hs
    · cases hs
  · cases hc
