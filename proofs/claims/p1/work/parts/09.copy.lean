/-! arraycopy -/
section QCi
variable {p : Program} {l : Launch} {e : Env} {R : Room} {s : State} {m : MethodId} {args : Array Value} {below : List Frame} {meth : Method} {c : Code} {H : Heap} {locs : List Loc} {cells slots : Nat} {Q : State → Prop}
variable {cc : ByteArray} {pc : Nat} {ls : Array Slot} {rest : List Value} {A : Nat → Prop} {H0 : Heap}
theorem q_copyi (hexec : p.tables.exec = Jvm.exec) (hb : c.code = cc) (hml : c.maxLocals = ls.size) {own : String} {index : Nat} (hown : s.vm.findClass own = some m.cls) (hlink : (Cond.methodLink own index arraycopyName).before args s = true) (hnat : (Cond.native arraycopyName).before args s = true) (hstat : (Cond.static arraycopyName).before args s = true) (hini : (Cond.initialized "java/lang/System").before args s = true)
    (hS : va_S A H0 H locs) {a a0 : Nat} {c0 c1 : ClassId} {n0 n1 : Nat} {f g : Nat → Int32} {ty : FieldType} (hc0 : H[a0]? = some (vp_cell c0 (n0, .inl f))) (hc1 : H[a]? = some (vp_cell c1 (n1, .inl g))) (ht0 : ArrOfT s c0 ty) (ht1 : ArrOfT s c1 ty) (hprim : refKind ty = false) (hAa : A a)
    {sp dp n : Int32} (h1 : ¬ sp < 0) (h2 : ¬ dp < 0) (h3 : ¬ n < 0) (h4 : sp.toNatClampNeg + n.toNatClampNeg ≤ n0) (h5 : dp.toNatClampNeg + n.toNatClampNeg ≤ n1) (hfit : ∀ i, i < n.toNatClampNeg → fits ty (.int (f (sp.toNatClampNeg + i))) = true)
    (hframes : 1 ≤ R.frames) (hlocals : (rest.map fun v => v.category).sum + (nativeFrameWords "java/lang/System" "arraycopy" 5 + 11) ≤ R.locals) (hdg : decode cc pc = .ok (.invokestatic index, 3))
    (kk : ∀ (H1 : Heap) (locs1 : List Loc), H1[a]? = some (vp_cell c1 (n1, .inl (va_cpy f g sp.toNatClampNeg dp.toNatClampNeg n.toNatClampNeg))) → H1.size = H.size → (∀ q : Nat, q ≠ a → H1[q]? = H[q]?) → va_S A H0 H1 locs1 → W p l e R s m args below meth c H1 locs1 cells slots Q (F0 m (pc + 3) ls rest)) : W p l e R s m args below meth c H locs cells slots Q (F0 m pc ls (.int n :: .int dp :: .ref a :: .int sp :: .ref a0 :: rest)) := by
  have nn : ∀ z : Int32, ¬ z < 0 → z.toInt = (z.toNatClampNeg : Int) := by
    intro z hz
    have hz0 : (0 : Int) ≤ z.toInt := by
      have := Int32.not_lt.mp hz
      simpa using Int32.le_iff_toInt_le.mp this
    show z.toInt = ((z.toInt.toNat : Nat) : Int)
    omega
  intro T hT X
  obtain ⟨-, k0, hk0, cm0, hkk0⟩ := ht0 n0 (fun j => .int (f j))
  obtain ⟨-, k1, hk1, cm1, hkk1⟩ := ht1 n1 (fun j => .int (g j))
  obtain ⟨vm', X', step⟩ := X.arraycopy hexec hown hlink hnat hstat hini (src := a0) (dst := a) (cs := vp_cell c0 (n0, .inl f)) (cd := vp_cell c1 (n1, .inl g)) (srcPos := sp) (destPos := dp) (n := n) (by rw [hT]; exact hc0) (by rw [hT]; exact hc1)
    (fun _ h => by cases h) (fun _ h => by cases h) (fun h => by cases h) (fun h => by cases h) hk0 hk1 hkk0 hkk1 (by simp [hprim]) h1 h2 h3
    (by rw [nn sp h1, nn n h3]; show ¬ _ > ((arrV c0 n0 (fun j => .int (f j))).slots.size : Int); rw [arrV_size]; omega)
    (by rw [nn dp h2, nn n h3]; show ¬ _ > ((arrV c1 n1 (fun j => .int (g j))).slots.size : Int); rw [arrV_size]; omega)
    (fun vm₁ _ i hi => by
      have e : (vp_cell c0 (n0, .inl f)).slots.getD (sp.toNatClampNeg + i) .null = .int (f (sp.toNatClampNeg + i)) := by
        show (arrV c0 n0 (fun j => .int (f j))).slots.getD _ _ = _
        rw [Array.getD_eq_getD_getElem?, arrV_read _ _ (by omega)]
        rfl
      refine ⟨?_, ?_⟩
      · rw [e]
        exact hfit i hi
      · rw [e]
        exact trivial)
    (g := F0 m pc ls (.int n :: .int dp :: .ref a :: .int sp :: .ref a0 :: rest)) rfl (by rw [hml]) (rest := rest) rfl (by rw [hb]; exact hdg) hframes (by show 2 * 0 + _ + _ ≤ _; omega)
  have e1 : copied (vp_cell c0 (n0, .inl f)) (vp_cell c1 (n1, .inl g)) sp dp n = vp_cell c1 (n1, .inl (va_cpy f g sp.toNatClampNeg dp.toNatClampNeg n.toNatClampNeg)) := va_copied (fun z => .int z) c0 c1 f g h4
  rw [e1] at X' step
  have hl : a < H.size := (Array.getElem?_eq_some_iff.mp hc1).1
  have hheap : ((T.setVm vm').setCell a (vp_cell c1 (n1, .inl (va_cpy f g sp.toNatClampNeg dp.toNatClampNeg n.toNatClampNeg)))).heap = H.setIfInBounds a (vp_cell c1 (n1, .inl (va_cpy f g sp.toNatClampNeg dp.toNatClampNeg n.toNatClampNeg))) := by rw [← hT]; rfl
  have oq : ∀ q : Nat, q ≠ a → (H.setIfInBounds a (vp_cell c1 (n1, .inl (va_cpy f g sp.toNatClampNeg dp.toNatClampNeg n.toNatClampNeg))))[q]? = H[q]? := fun q hq => by simp [Array.getElem?_setIfInBounds, Ne.symm hq]
  obtain ⟨t, a1, b1⟩ := kk _ _ (show (H.setIfInBounds a _)[a]? = some _ by simp [Array.getElem?_setIfInBounds, hl]) (by simp) oq ⟨by simp; exact hS.1, fun q g1 g2 => by
      rw [oq q (fun e => g2 (by rw [e]; exact hAa))]
      exact hS.2.1 q g1 g2, fun q hq => by
      rcases List.mem_append.mp hq with h | h
      · exact hS.2.2 q h
      · obtain ⟨z, -, hz⟩ := List.mem_map.mp h
        rw [← hz]
        exact hAa⟩ _ hheap X'
  exact ⟨t, step t a1, b1⟩
end QCi
section QCl
variable {p : Program} {l : Launch} {e : Env} {R : Room} {s : State} {m : MethodId} {args : Array Value} {below : List Frame} {meth : Method} {c : Code} {H : Heap} {locs : List Loc} {cells slots : Nat} {Q : State → Prop}
variable {cc : ByteArray} {pc : Nat} {ls : Array Slot} {rest : List Value} {A : Nat → Prop} {H0 : Heap}
theorem q_copyl (hexec : p.tables.exec = Jvm.exec) (hb : c.code = cc) (hml : c.maxLocals = ls.size) {own : String} {index : Nat} (hown : s.vm.findClass own = some m.cls) (hlink : (Cond.methodLink own index arraycopyName).before args s = true) (hnat : (Cond.native arraycopyName).before args s = true) (hstat : (Cond.static arraycopyName).before args s = true) (hini : (Cond.initialized "java/lang/System").before args s = true)
    (hS : va_S A H0 H locs) {a a0 : Nat} {c0 c1 : ClassId} {n0 n1 : Nat} {f g : Nat → Int64} {ty : FieldType} (hc0 : H[a0]? = some (vp_cell c0 (n0, .inr (.inl f)))) (hc1 : H[a]? = some (vp_cell c1 (n1, .inr (.inl g)))) (ht0 : ArrOfT s c0 ty) (ht1 : ArrOfT s c1 ty) (hprim : refKind ty = false) (hAa : A a)
    {sp dp n : Int32} (h1 : ¬ sp < 0) (h2 : ¬ dp < 0) (h3 : ¬ n < 0) (h4 : sp.toNatClampNeg + n.toNatClampNeg ≤ n0) (h5 : dp.toNatClampNeg + n.toNatClampNeg ≤ n1) (hfit : ∀ i, i < n.toNatClampNeg → fits ty (.long (f (sp.toNatClampNeg + i))) = true)
    (hframes : 1 ≤ R.frames) (hlocals : (rest.map fun v => v.category).sum + (nativeFrameWords "java/lang/System" "arraycopy" 5 + 11) ≤ R.locals) (hdg : decode cc pc = .ok (.invokestatic index, 3))
    (kk : ∀ (H1 : Heap) (locs1 : List Loc), H1[a]? = some (vp_cell c1 (n1, .inr (.inl (va_cpy f g sp.toNatClampNeg dp.toNatClampNeg n.toNatClampNeg)))) → H1.size = H.size → (∀ q : Nat, q ≠ a → H1[q]? = H[q]?) → va_S A H0 H1 locs1 → W p l e R s m args below meth c H1 locs1 cells slots Q (F0 m (pc + 3) ls rest)) : W p l e R s m args below meth c H locs cells slots Q (F0 m pc ls (.int n :: .int dp :: .ref a :: .int sp :: .ref a0 :: rest)) := by
  have nn : ∀ z : Int32, ¬ z < 0 → z.toInt = (z.toNatClampNeg : Int) := by
    intro z hz
    have hz0 : (0 : Int) ≤ z.toInt := by
      have := Int32.not_lt.mp hz
      simpa using Int32.le_iff_toInt_le.mp this
    show z.toInt = ((z.toInt.toNat : Nat) : Int)
    omega
  intro T hT X
  obtain ⟨-, k0, hk0, cm0, hkk0⟩ := ht0 n0 (fun j => .long (f j))
  obtain ⟨-, k1, hk1, cm1, hkk1⟩ := ht1 n1 (fun j => .long (g j))
  obtain ⟨vm', X', step⟩ := X.arraycopy hexec hown hlink hnat hstat hini (src := a0) (dst := a) (cs := vp_cell c0 (n0, .inr (.inl f))) (cd := vp_cell c1 (n1, .inr (.inl g))) (srcPos := sp) (destPos := dp) (n := n) (by rw [hT]; exact hc0) (by rw [hT]; exact hc1)
    (fun _ h => by cases h) (fun _ h => by cases h) (fun h => by cases h) (fun h => by cases h) hk0 hk1 hkk0 hkk1 (by simp [hprim]) h1 h2 h3
    (by rw [nn sp h1, nn n h3]; show ¬ _ > ((arrV c0 n0 (fun j => .long (f j))).slots.size : Int); rw [arrV_size]; omega)
    (by rw [nn dp h2, nn n h3]; show ¬ _ > ((arrV c1 n1 (fun j => .long (g j))).slots.size : Int); rw [arrV_size]; omega)
    (fun vm₁ _ i hi => by
      have e : (vp_cell c0 (n0, .inr (.inl f))).slots.getD (sp.toNatClampNeg + i) .null = .long (f (sp.toNatClampNeg + i)) := by
        show (arrV c0 n0 (fun j => .long (f j))).slots.getD _ _ = _
        rw [Array.getD_eq_getD_getElem?, arrV_read _ _ (by omega)]
        rfl
      refine ⟨?_, ?_⟩
      · rw [e]
        exact hfit i hi
      · rw [e]
        exact trivial)
    (g := F0 m pc ls (.int n :: .int dp :: .ref a :: .int sp :: .ref a0 :: rest)) rfl (by rw [hml]) (rest := rest) rfl (by rw [hb]; exact hdg) hframes (by show 2 * 0 + _ + _ ≤ _; omega)
  have e1 : copied (vp_cell c0 (n0, .inr (.inl f))) (vp_cell c1 (n1, .inr (.inl g))) sp dp n = vp_cell c1 (n1, .inr (.inl (va_cpy f g sp.toNatClampNeg dp.toNatClampNeg n.toNatClampNeg))) := va_copied (fun z => .long z) c0 c1 f g h4
  rw [e1] at X' step
  have hl : a < H.size := (Array.getElem?_eq_some_iff.mp hc1).1
  have hheap : ((T.setVm vm').setCell a (vp_cell c1 (n1, .inr (.inl (va_cpy f g sp.toNatClampNeg dp.toNatClampNeg n.toNatClampNeg))))).heap = H.setIfInBounds a (vp_cell c1 (n1, .inr (.inl (va_cpy f g sp.toNatClampNeg dp.toNatClampNeg n.toNatClampNeg)))) := by rw [← hT]; rfl
  have oq : ∀ q : Nat, q ≠ a → (H.setIfInBounds a (vp_cell c1 (n1, .inr (.inl (va_cpy f g sp.toNatClampNeg dp.toNatClampNeg n.toNatClampNeg)))))[q]? = H[q]? := fun q hq => by simp [Array.getElem?_setIfInBounds, Ne.symm hq]
  obtain ⟨t, a1, b1⟩ := kk _ _ (show (H.setIfInBounds a _)[a]? = some _ by simp [Array.getElem?_setIfInBounds, hl]) (by simp) oq ⟨by simp; exact hS.1, fun q g1 g2 => by
      rw [oq q (fun e => g2 (by rw [e]; exact hAa))]
      exact hS.2.1 q g1 g2, fun q hq => by
      rcases List.mem_append.mp hq with h | h
      · exact hS.2.2 q h
      · obtain ⟨z, -, hz⟩ := List.mem_map.mp h
        rw [← hz]
        exact hAa⟩ _ hheap X'
  exact ⟨t, step t a1, b1⟩
end QCl
def s_copyI : PSem := fun i pc ls st h => match st with
  | .int n :: .int dp :: .ref a :: .int sp :: .ref a0 :: rest => (match h_sh h a0, h_sh h a with
    | some (1, n0), some (1, n1) => if rest.length ≤ 4 ∧ (¬ sp < 0) ∧ (¬ dp < 0) ∧ (¬ n < 0) ∧ sp.toNatClampNeg + n.toNatClampNeg ≤ n0 ∧ dp.toNatClampNeg + n.toNatClampNeg ≤ n1  then some (pc + 3, ls, rest, w_ri h a (va_cpy (h_i h a0) (h_i h a) sp.toNatClampNeg dp.toNatClampNeg n.toNatClampNeg)) else none
    | _, _ => none)
  | _ => none
def c_copyI : PChk := fun o _ cc pc i => match decode cc pc with
  | .ok (.invokestatic n, 3) => decide (lw_tbl[p_b i]? = some (.methodLink (cN o) n arraycopyName)) && goodWord (.methodLink (cN o) n arraycopyName)
  | _ => false
theorem z_copyI : SoundP c_copyI s_copyI := by
  intro G p l e R s m args below meth c Q o ini cc nL i pc pls pst h r H locs cells slots rls F hc hs hW hS hL _ _ k
  obtain ⟨hx, hb, hml, hown, hts, hK, -, hfr, hlo, -⟩ := F
  unfold c_copyI at hc
  split at hc
  next ix hd =>
    simp only [Bool.and_eq_true, decide_eq_true_eq] at hc
    unfold s_copyI at hs
    split at hs
    next n dp a sp a0 rest =>
      split at hs
      next n0 n1 hs0 hs1 =>
        split at hs
        next hcond =>
          cases hs
          dsimp only at k
          simp only [show ∀ g, h_ct (w_ri h a g) = h_ct h from fun _ => rfl, show ∀ g, h_sl (w_ri h a g) = h_sl h from fun _ => rfl, Nat.sub_self, Nat.add_zero] at k
          have h8 : ((rest.map (tr G)).map fun v => v.category).sum ≤ 8 := Nat.le_trans (cat_sum G rest) (by have := hcond.1; omega)
          have hnf : nativeFrameWords "java/lang/System" "arraycopy" 5 ≤ 7 := by decide +kernel
          refine q_copyi (f := h_i h a0) (g := h_i h a) (ty := .int) (n0 := n0) (n1 := n1) hx hb (hml.trans hL.1.1.symm) hown (hts _ (gt_in _ hc.1 hc.2)) (hts _ (gt_in 436 (by decide +kernel) rfl)) (hts _ (gt_in 435 (by decide +kernel) rfl)) (hts _ (gt_in 180 (by decide +kernel) rfl)) hS (hW.at hs0) (hW.at hs1) (hK.1.2 0 _ rfl).1 (hK.1.2 0 _ rfl).1 rfl (Ax_ad G a) hcond.2.1 hcond.2.2.1 hcond.2.2.2.1 hcond.2.2.2.2.1 hcond.2.2.2.2.2 (fun j hj => rfl) hfr (by omega) hd fun H1 locs1 e1 z oq hS1 => ?_
          refine k H1 locs1 rls (hW.put hs1 z oq ?_ rfl rfl rfl (fun c' hc => ⟨upr_ne _ _ hc, rfl, rfl⟩)) hS1 hL
          show H1[G.1 + a]? = some (vp_cell (G.2.2.2.2.2 .int) (n1, .inl (h_i (w_ri h a _) a)))
          rw [show ∀ g, h_i (w_ri h a g) a = g from fun g => upr_row _ _ _]
          exact e1
        · cases hs
      · cases hs
    · cases hs
  · cases hc
def s_copyB : PSem := fun i pc ls st h => match st with
  | .int n :: .int dp :: .ref a :: .int sp :: .ref a0 :: rest => (match h_sh h a0, h_sh h a with
    | some (2, n0), some (2, n1) => if rest.length ≤ 4 ∧ (¬ sp < 0) ∧ (¬ dp < 0) ∧ (¬ n < 0) ∧ sp.toNatClampNeg + n.toNatClampNeg ≤ n0 ∧ dp.toNatClampNeg + n.toNatClampNeg ≤ n1 ∧ (List.range n.toNatClampNeg).all (fun j => fits .byte (.int (h_i h a0 (sp.toNatClampNeg + j)))) = true then some (pc + 3, ls, rest, w_ri h a (va_cpy (h_i h a0) (h_i h a) sp.toNatClampNeg dp.toNatClampNeg n.toNatClampNeg)) else none
    | _, _ => none)
  | _ => none
def c_copyB : PChk := fun o _ cc pc i => match decode cc pc with
  | .ok (.invokestatic n, 3) => decide (lw_tbl[p_b i]? = some (.methodLink (cN o) n arraycopyName)) && goodWord (.methodLink (cN o) n arraycopyName)
  | _ => false
theorem z_copyB : SoundP c_copyB s_copyB := by
  intro G p l e R s m args below meth c Q o ini cc nL i pc pls pst h r H locs cells slots rls F hc hs hW hS hL _ _ k
  obtain ⟨hx, hb, hml, hown, hts, hK, -, hfr, hlo, -⟩ := F
  unfold c_copyB at hc
  split at hc
  next ix hd =>
    simp only [Bool.and_eq_true, decide_eq_true_eq] at hc
    unfold s_copyB at hs
    split at hs
    next n dp a sp a0 rest =>
      split at hs
      next n0 n1 hs0 hs1 =>
        split at hs
        next hcond =>
          cases hs
          dsimp only at k
          simp only [show ∀ g, h_ct (w_ri h a g) = h_ct h from fun _ => rfl, show ∀ g, h_sl (w_ri h a g) = h_sl h from fun _ => rfl, Nat.sub_self, Nat.add_zero] at k
          have h8 : ((rest.map (tr G)).map fun v => v.category).sum ≤ 8 := Nat.le_trans (cat_sum G rest) (by have := hcond.1; omega)
          have hnf : nativeFrameWords "java/lang/System" "arraycopy" 5 ≤ 7 := by decide +kernel
          refine q_copyi (f := h_i h a0) (g := h_i h a) (ty := .byte) (n0 := n0) (n1 := n1) hx hb (hml.trans hL.1.1.symm) hown (hts _ (gt_in _ hc.1 hc.2)) (hts _ (gt_in 436 (by decide +kernel) rfl)) (hts _ (gt_in 435 (by decide +kernel) rfl)) (hts _ (gt_in 180 (by decide +kernel) rfl)) hS (hW.at hs0) (hW.at hs1) (hK.1.2 1 _ rfl).1 (hK.1.2 1 _ rfl).1 rfl (Ax_ad G a) hcond.2.1 hcond.2.2.1 hcond.2.2.2.1 hcond.2.2.2.2.1 hcond.2.2.2.2.2.1 (fun j hj => List.all_eq_true.mp hcond.2.2.2.2.2.2 j (List.mem_range.mpr hj)) hfr (by omega) hd fun H1 locs1 e1 z oq hS1 => ?_
          refine k H1 locs1 rls (hW.put hs1 z oq ?_ rfl rfl rfl (fun c' hc => ⟨upr_ne _ _ hc, rfl, rfl⟩)) hS1 hL
          show H1[G.1 + a]? = some (vp_cell (G.2.2.2.2.2 .byte) (n1, .inl (h_i (w_ri h a _) a)))
          rw [show ∀ g, h_i (w_ri h a g) a = g from fun g => upr_row _ _ _]
          exact e1
        · cases hs
      · cases hs
    · cases hs
  · cases hc
def s_copyL : PSem := fun i pc ls st h => match st with
  | .int n :: .int dp :: .ref a :: .int sp :: .ref a0 :: rest => (match h_sh h a0, h_sh h a with
    | some (4, n0), some (4, n1) => if rest.length ≤ 4 ∧ (¬ sp < 0) ∧ (¬ dp < 0) ∧ (¬ n < 0) ∧ sp.toNatClampNeg + n.toNatClampNeg ≤ n0 ∧ dp.toNatClampNeg + n.toNatClampNeg ≤ n1  then some (pc + 3, ls, rest, w_rl h a (va_cpy (h_l h a0) (h_l h a) sp.toNatClampNeg dp.toNatClampNeg n.toNatClampNeg)) else none
    | _, _ => none)
  | _ => none
def c_copyL : PChk := fun o _ cc pc i => match decode cc pc with
  | .ok (.invokestatic n, 3) => decide (lw_tbl[p_b i]? = some (.methodLink (cN o) n arraycopyName)) && goodWord (.methodLink (cN o) n arraycopyName)
  | _ => false
theorem z_copyL : SoundP c_copyL s_copyL := by
  intro G p l e R s m args below meth c Q o ini cc nL i pc pls pst h r H locs cells slots rls F hc hs hW hS hL _ _ k
  obtain ⟨hx, hb, hml, hown, hts, hK, -, hfr, hlo, -⟩ := F
  unfold c_copyL at hc
  split at hc
  next ix hd =>
    simp only [Bool.and_eq_true, decide_eq_true_eq] at hc
    unfold s_copyL at hs
    split at hs
    next n dp a sp a0 rest =>
      split at hs
      next n0 n1 hs0 hs1 =>
        split at hs
        next hcond =>
          cases hs
          dsimp only at k
          simp only [show ∀ g, h_ct (w_rl h a g) = h_ct h from fun _ => rfl, show ∀ g, h_sl (w_rl h a g) = h_sl h from fun _ => rfl, Nat.sub_self, Nat.add_zero] at k
          have h8 : ((rest.map (tr G)).map fun v => v.category).sum ≤ 8 := Nat.le_trans (cat_sum G rest) (by have := hcond.1; omega)
          have hnf : nativeFrameWords "java/lang/System" "arraycopy" 5 ≤ 7 := by decide +kernel
          refine q_copyl (f := h_l h a0) (g := h_l h a) (ty := .long) (n0 := n0) (n1 := n1) hx hb (hml.trans hL.1.1.symm) hown (hts _ (gt_in _ hc.1 hc.2)) (hts _ (gt_in 436 (by decide +kernel) rfl)) (hts _ (gt_in 435 (by decide +kernel) rfl)) (hts _ (gt_in 180 (by decide +kernel) rfl)) hS (hW.at hs0) (hW.at hs1) (hK.1.2 3 _ rfl).1 (hK.1.2 3 _ rfl).1 rfl (Ax_ad G a) hcond.2.1 hcond.2.2.1 hcond.2.2.2.1 hcond.2.2.2.2.1 hcond.2.2.2.2.2 (fun j hj => rfl) hfr (by omega) hd fun H1 locs1 e1 z oq hS1 => ?_
          refine k H1 locs1 rls (hW.put hs1 z oq ?_ rfl rfl rfl (fun c' hc => ⟨rfl, upr_ne _ _ hc, rfl⟩)) hS1 hL
          show H1[G.1 + a]? = some (vp_cell (G.2.2.2.2.2 .long) (n1, .inr (.inl (h_l (w_rl h a _) a))))
          rw [show ∀ g, h_l (w_rl h a g) a = g from fun g => upr_row _ _ _]
          exact e1
        · cases hs
      · cases hs
    · cases hs
  · cases hc
def s_mmax : PSem := fun i pc ls st h => match st with
  | .int y :: .int x :: rest => if rest.length ≤ 4 then some (pc + 3, ls, .int (if x < y then y else x) :: rest, h) else none
  | _ => none
def c_mmax : PChk := fun o _ cc pc i => match decode cc pc with
  | .ok (.invokestatic n, 3) => decide (lw_tbl[p_b i]? = some (.methodLink (cN o) n Lib.Math.max.name)) && goodWord (.methodLink (cN o) n Lib.Math.max.name)
  | _ => false
theorem z_mmax : SoundP c_mmax s_mmax := by
  intro G p l e R s m args below meth c Q o ini cc nL i pc pls pst h r H locs cells slots rls F hc hs hW hS hL hcl hsl k
  obtain ⟨hx, hb, hml, hown, hts, hK, -, hfr, hlo, -⟩ := F
  unfold c_mmax at hc
  split at hc
  next n hd =>
    simp only [Bool.and_eq_true, decide_eq_true_eq] at hc
    unfold s_mmax at hs
    split at hs
    next y x rest =>
      split at hs
      next hr =>
        cases hs
        simp only [Nat.sub_self, Nat.add_zero] at k hcl hsl
        have h8 : ((rest.map (tr G)).map fun v => v.category).sum ≤ 8 := Nat.le_trans (cat_sum G rest) (by omega)
        exact va_mmax hx hb (hml.trans hL.1.1.symm) hown (hts _ (gt_in _ hc.1 hc.2)) (hts _ (gt_in 428 (by decide +kernel) rfl)) (hts _ (gt_in 179 (by decide +kernel) rfl)) (hts _ (gt_in 429 (by decide +kernel) rfl)) hfr (by omega) hcl hsl hd (k H locs rls hW hS hL)
      · cases hs
    · cases hs
  · cases hc
def s_mmin : PSem := fun i pc ls st h => match st with
  | .int y :: .int x :: rest => if rest.length ≤ 4 then some (pc + 3, ls, .int (if y < x then y else x) :: rest, h) else none
  | _ => none
def c_mmin : PChk := fun o _ cc pc i => match decode cc pc with
  | .ok (.invokestatic n, 3) => decide (lw_tbl[p_b i]? = some (.methodLink (cN o) n Lib.Math.min.name)) && goodWord (.methodLink (cN o) n Lib.Math.min.name)
  | _ => false
theorem z_mmin : SoundP c_mmin s_mmin := by
  intro G p l e R s m args below meth c Q o ini cc nL i pc pls pst h r H locs cells slots rls F hc hs hW hS hL hcl hsl k
  obtain ⟨hx, hb, hml, hown, hts, hK, -, hfr, hlo, -⟩ := F
  unfold c_mmin at hc
  split at hc
  next n hd =>
    simp only [Bool.and_eq_true, decide_eq_true_eq] at hc
    unfold s_mmin at hs
    split at hs
    next y x rest =>
      split at hs
      next hr =>
        cases hs
        simp only [Nat.sub_self, Nat.add_zero] at k hcl hsl
        have h8 : ((rest.map (tr G)).map fun v => v.category).sum ≤ 8 := Nat.le_trans (cat_sum G rest) (by omega)
        exact va_mmin hx hb (hml.trans hL.1.1.symm) hown (hts _ (gt_in _ hc.1 hc.2)) (hts _ (gt_in 511 (by decide +kernel) rfl)) (hts _ (gt_in 179 (by decide +kernel) rfl)) (hts _ (gt_in 512 (by decide +kernel) rfl)) hfr (by omega) hcl hsl hd (k H locs rls hW hS hL)
      · cases hs
    · cases hs
  · cases hc
