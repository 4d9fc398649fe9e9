/-! the instructions that read or change the heap -/
theorem va_P1 {D : va_G} {cl : List vw_C} {q : Nat × va_E} {H : Heap} (h : va_at D cl q H) : va_P D cl [q] H := fun k x hx => by
  match k, hx with
  | 0, hx => cases hx; exact h
  | k + 1, hx => simp at hx
theorem Wh.at {G : Gx} {h : PH} {H : Heap} (hW : Wh G h H) {c : Nat} {q : Nat × Nat} (hs : h_sh h c = some q) : va_at G.2.2.2.2.1 cls (G.1 + c, cel G h c q) H := (hW.2.2 c q hs).2
theorem cel_congr {G : Gx} {h h' : PH} {c : Nat} (e1 : h_i h' c = h_i h c) (e2 : h_l h' c = h_l h c) (e3 : h_r h' c = h_r h c) (q : Nat × Nat) : cel G h' c q = cel G h c q := by
  have e : fval G h' q.2 c = fval G h q.2 c := by
    funext k
    simp only [fval, e1, e2, e3]
  simp only [cel, e, e1, e2]
theorem Wh.put {G : Gx} {h h' : PH} {H H1 : Heap} (hW : Wh G h H) {c : Nat} {q : Nat × Nat} (hs : h_sh h c = some q) (z : H1.size = H.size) (oq : ∀ x : Nat, x ≠ G.1 + c → H1[x]? = H[x]?) (hat : va_at G.2.2.2.2.1 cls (G.1 + c, cel G h' c q) H1)
    (es : h_sh h' = h_sh h) (ec : h_ct h' = h_ct h) (esc : h_sc h' = h_sc h) (eo : ∀ c', c' ≠ c → h_i h' c' = h_i h c' ∧ h_l h' c' = h_l h c' ∧ h_r h' c' = h_r h c') : Wh G h' H1 := by
  refine ⟨by rw [z, ec]; exact hW.1, esc.trans hW.2.1, fun c' q' hs' => ?_⟩
  rw [es] at hs'
  obtain ⟨h1, h2⟩ := hW.2.2 c' q' hs'
  refine ⟨by rw [ec]; exact h1, ?_⟩
  by_cases hc : c' = c
  · subst hc
    cases hs.symm.trans hs'
    exact hat
  · obtain ⟨e1, e2, e3⟩ := eo c' hc
    rw [cel_congr e1 e2 e3]
    exact h2.kept (oq _ (by show G.1 + c' ≠ G.1 + c; omega))
theorem Wh.lt {G : Gx} {h : PH} {H : Heap} (hW : Wh G h H) {c : Nat} {q : Nat × Nat} (hs : h_sh h c = some q) : c < h_ct h := (hW.2.2 c q hs).1
theorem Ax_ad (G : Gx) (c : Nat) : Ax G (G.1 + c) := Nat.le_add_right _ _
-- arrays: reading
def s_iaload : PSem := fun i pc ls st h => match st with
  | .int x :: .ref a :: rest => match h_sh h a with
    | some (1, n) => if x < 0 ∨ n ≤ x.toNatClampNeg then none else some (pc + 1, ls, .int (h_i h a x.toNatClampNeg) :: rest, h)
    | _ => none
  | _ => none
def c_iaload : PChk := fun _ _ cc pc _ => match decode cc pc with
  | .ok (.iaload, 1) => true
  | _ => false
theorem z_iaload : SoundP c_iaload s_iaload := by
  intro G p l e R s m args below meth c Q o ini cc nL i pc pls pst h r H locs cells slots rls F hc hs hW hS hL _ _ k
  obtain ⟨hx, hb, hml, hown, hts, hK, -⟩ := F
  unfold c_iaload at hc
  split at hc
  next hd =>
    unfold s_iaload at hs
    split at hs
    next x a rest =>
      split at hs
      next n hsh =>
        split at hs
        · cases hs
        next hne =>
          cases hs
          simp only [Nat.sub_self, Nat.add_zero] at k
          exact va_iald hx hb hK.1 (va_P1 (hW.at hsh)) 0 0 rfl rfl hne hd (k H locs rls hW hS hL)
      · cases hs
    · cases hs
  · cases hc
def s_laload : PSem := fun i pc ls st h => match st with
  | .int x :: .ref a :: rest => match h_sh h a with
    | some (4, n) => if x < 0 ∨ n ≤ x.toNatClampNeg then none else some (pc + 1, ls, .long (h_l h a x.toNatClampNeg) :: rest, h)
    | _ => none
  | _ => none
def c_laload : PChk := fun _ _ cc pc _ => match decode cc pc with
  | .ok (.laload, 1) => true
  | _ => false
theorem z_laload : SoundP c_laload s_laload := by
  intro G p l e R s m args below meth c Q o ini cc nL i pc pls pst h r H locs cells slots rls F hc hs hW hS hL _ _ k
  obtain ⟨hx, hb, hml, hown, hts, hK, -⟩ := F
  unfold c_laload at hc
  split at hc
  next hd =>
    unfold s_laload at hs
    split at hs
    next x a rest =>
      split at hs
      next n hsh =>
        split at hs
        · cases hs
        next hne =>
          cases hs
          simp only [Nat.sub_self, Nat.add_zero] at k
          exact va_lald hx hb hK.1 (va_P1 (hW.at hsh)) 0 3 rfl rfl hne hd (k H locs rls hW hS hL)
      · cases hs
    · cases hs
  · cases hc
def s_baload : PSem := fun i pc ls st h => match st with
  | .int x :: .ref a :: rest => match h_sh h a with
    | some (2, n) => if x < 0 ∨ n ≤ x.toNatClampNeg then none else some (pc + 1, ls, .int (h_i h a x.toNatClampNeg) :: rest, h)
    | some (3, n) => if x < 0 ∨ n ≤ x.toNatClampNeg then none else some (pc + 1, ls, .int (h_i h a x.toNatClampNeg) :: rest, h)
    | _ => none
  | _ => none
def c_baload : PChk := fun _ _ cc pc _ => match decode cc pc with
  | .ok (.baload, 1) => true
  | _ => false
theorem z_baload : SoundP c_baload s_baload := by
  intro G p l e R s m args below meth c Q o ini cc nL i pc pls pst h r H locs cells slots rls F hc hs hW hS hL _ _ k
  obtain ⟨hx, hb, hml, hown, hts, hK, -⟩ := F
  unfold c_baload at hc
  split at hc
  next hd =>
    unfold s_baload at hs
    split at hs
    next x a rest =>
      split at hs
      next n hsh =>
        split at hs
        · cases hs
        next hne =>
          cases hs
          simp only [Nat.sub_self, Nat.add_zero] at k
          exact va_bald hx hb hK.1 (va_P1 (hW.at hsh)) 0 1 rfl rfl hne hd (k H locs rls hW hS hL)
      next n hsh =>
        split at hs
        · cases hs
        next hne =>
          cases hs
          simp only [Nat.sub_self, Nat.add_zero] at k
          exact va_zald hx hb hK.1 (va_P1 (hW.at hsh)) 0 2 rfl rfl hne hd (k H locs rls hW hS hL)
      · cases hs
    · cases hs
  · cases hc
def s_alen : PSem := fun i pc ls st h => match st with
  | .ref a :: rest => match h_sh h a with
    | some (1, n) => some (pc + 1, ls, .int (Int32.ofNat n) :: rest, h)
    | some (2, n) => some (pc + 1, ls, .int (Int32.ofNat n) :: rest, h)
    | some (3, n) => some (pc + 1, ls, .int (Int32.ofNat n) :: rest, h)
    | some (4, n) => some (pc + 1, ls, .int (Int32.ofNat n) :: rest, h)
    | _ => none
  | _ => none
def c_alen : PChk := fun _ _ cc pc _ => match decode cc pc with
  | .ok (.arraylength, 1) => true
  | _ => false
theorem z_alen : SoundP c_alen s_alen := by
  intro G p l e R s m args below meth c Q o ini cc nL i pc pls pst h r H locs cells slots rls F hc hs hW hS hL _ _ k
  obtain ⟨hx, hb, hml, hown, hts, hK, -⟩ := F
  unfold c_alen at hc
  split at hc
  next hd =>
    unfold s_alen at hs
    split at hs
    next a rest =>
      split at hs
      next n hsh =>
        cases hs
        simp only [Nat.sub_self, Nat.add_zero] at k
        exact va_alen hx hb hK.1 (va_P1 (hW.at hsh)) 0 0 rfl rfl rfl hd (k H locs rls hW hS hL)
      next n hsh =>
        cases hs
        simp only [Nat.sub_self, Nat.add_zero] at k
        exact va_alen hx hb hK.1 (va_P1 (hW.at hsh)) 0 1 rfl rfl rfl hd (k H locs rls hW hS hL)
      next n hsh =>
        cases hs
        simp only [Nat.sub_self, Nat.add_zero] at k
        exact va_alen hx hb hK.1 (va_P1 (hW.at hsh)) 0 2 rfl rfl rfl hd (k H locs rls hW hS hL)
      next n hsh =>
        cases hs
        simp only [Nat.sub_self, Nat.add_zero] at k
        exact va_alen hx hb hK.1 (va_P1 (hW.at hsh)) 0 3 rfl rfl rfl hd (k H locs rls hW hS hL)
      · cases hs
    · cases hs
  · cases hc
-- arrays: writing
def s_iastore : PSem := fun i pc ls st h => match st with
  | .int v :: .int x :: .ref a :: rest => match h_sh h a with
    | some (1, n) => if x < 0 ∨ n ≤ x.toNatClampNeg then none else some (pc + 1, ls, rest, w_i h a x.toNatClampNeg v)
    | _ => none
  | _ => none
def c_iastore : PChk := fun _ _ cc pc _ => match decode cc pc with
  | .ok (.iastore, 1) => true
  | _ => false
theorem w_i_oth (h : PH) (a k : Nat) (v : Int32) : ∀ c', c' ≠ a → h_i (w_i h a k v) c' = h_i h c' ∧ h_l (w_i h a k v) c' = h_l h c' ∧ h_r (w_i h a k v) c' = h_r h c' := fun _ hc => ⟨up2_ne _ _ _ hc, rfl, rfl⟩
theorem w_l_oth (h : PH) (a k : Nat) (v : Int64) : ∀ c', c' ≠ a → h_i (w_l h a k v) c' = h_i h c' ∧ h_l (w_l h a k v) c' = h_l h c' ∧ h_r (w_l h a k v) c' = h_r h c' := fun _ hc => ⟨rfl, up2_ne _ _ _ hc, rfl⟩
theorem w_r_oth (h : PH) (a k : Nat) (v : Option Nat) : ∀ c', c' ≠ a → h_i (w_r h a k v) c' = h_i h c' ∧ h_l (w_r h a k v) c' = h_l h c' ∧ h_r (w_r h a k v) c' = h_r h c' := fun _ hc => ⟨rfl, rfl, up2_ne _ _ _ hc⟩
theorem z_iastore : SoundP c_iastore s_iastore := by
  intro G p l e R s m args below meth c Q o ini cc nL i pc pls pst h r H locs cells slots rls F hc hs hW hS hL _ _ k
  obtain ⟨hx, hb, hml, hown, hts, hK, -⟩ := F
  unfold c_iastore at hc
  split at hc
  next hd =>
    unfold s_iastore at hs
    split at hs
    next v x a rest =>
      split at hs
      next n hsh =>
        split at hs
        · cases hs
        next hne =>
          cases hs
          simp only [show h_ct (w_i h a x.toNatClampNeg v) = h_ct h from rfl, show h_sl (w_i h a x.toNatClampNeg v) = h_sl h from rfl, Nat.sub_self, Nat.add_zero] at k
          refine W.iast hx hb (hW.at hsh) ((hK.1.2 0 _ rfl).1 n (fun j => .int (h_i h a j))) (fun q => by cases q) (by show ¬ (x < 0 ∨ (arrV _ _ _).slots.size ≤ _); rw [arrV_size]; exact hne) rfl rfl hd fun H1 e1 z oq => ?_
          refine k H1 _ rls (hW.put hsh z oq ?_ rfl rfl rfl (w_i_oth _ _ _ _)) (hS.put z oq (Ax_ad G a)) hL
          show H1[G.1 + a]? = some (vp_cell _ _)
          refine e1.trans (congrArg some ?_)
          show (vp_cell _ _).setSlot _ _ = vp_cell _ (n, .inl (up2 (h_i h) a x.toNatClampNeg v a))
          rw [vp_cell_i, vp_cell_i, arrV_store, up2_row]
          congr 1
          funext q
          by_cases hq : q = x.toNatClampNeg <;> simp [updV, hq]
      · cases hs
    · cases hs
  · cases hc
def s_lastore : PSem := fun i pc ls st h => match st with
  | .long v :: .int x :: .ref a :: rest => match h_sh h a with
    | some (4, n) => if x < 0 ∨ n ≤ x.toNatClampNeg then none else some (pc + 1, ls, rest, w_l h a x.toNatClampNeg v)
    | _ => none
  | _ => none
def c_lastore : PChk := fun _ _ cc pc _ => match decode cc pc with
  | .ok (.lastore, 1) => true
  | _ => false
theorem z_lastore : SoundP c_lastore s_lastore := by
  intro G p l e R s m args below meth c Q o ini cc nL i pc pls pst h r H locs cells slots rls F hc hs hW hS hL _ _ k
  obtain ⟨hx, hb, hml, hown, hts, hK, -⟩ := F
  unfold c_lastore at hc
  split at hc
  next hd =>
    unfold s_lastore at hs
    split at hs
    next v x a rest =>
      split at hs
      next n hsh =>
        split at hs
        · cases hs
        next hne =>
          cases hs
          simp only [show h_ct (w_l h a x.toNatClampNeg v) = h_ct h from rfl, show h_sl (w_l h a x.toNatClampNeg v) = h_sl h from rfl, Nat.sub_self, Nat.add_zero] at k
          refine W.last hx hb (hW.at hsh) ((hK.1.2 3 _ rfl).1 n (fun j => .long (h_l h a j))) (fun q => by cases q) (by show ¬ (x < 0 ∨ (arrV _ _ _).slots.size ≤ _); rw [arrV_size]; exact hne) rfl rfl hd fun H1 e1 z oq => ?_
          refine k H1 _ rls (hW.put hsh z oq ?_ rfl rfl rfl (w_l_oth _ _ _ _)) (hS.put z oq (Ax_ad G a)) hL
          show H1[G.1 + a]? = some (vp_cell _ _)
          refine e1.trans (congrArg some ?_)
          show (vp_cell _ _).setSlot _ _ = vp_cell _ (n, .inr (.inl (up2 (h_l h) a x.toNatClampNeg v a)))
          rw [vp_cell_l, vp_cell_l, arrV_store, up2_row]
          congr 1
          funext q
          by_cases hq : q = x.toNatClampNeg <;> simp [updV, hq]
      · cases hs
    · cases hs
  · cases hc
def s_bastore : PSem := fun i pc ls st h => match st with
  | .int v :: .int x :: .ref a :: rest => match h_sh h a with
    | some (2, n) => if x < 0 ∨ n ≤ x.toNatClampNeg then none else some (pc + 1, ls, rest, w_i h a x.toNatClampNeg v.toInt8.toInt32)
    | some (3, n) => if x < 0 ∨ n ≤ x.toNatClampNeg then none else some (pc + 1, ls, rest, w_i h a x.toNatClampNeg (v &&& 1))
    | _ => none
  | _ => none
def c_bastore : PChk := fun _ _ cc pc _ => match decode cc pc with
  | .ok (.bastore, 1) => true
  | _ => false
theorem z_bastore : SoundP c_bastore s_bastore := by
  intro G p l e R s m args below meth c Q o ini cc nL i pc pls pst h r H locs cells slots rls F hc hs hW hS hL _ _ k
  obtain ⟨hx, hb, hml, hown, hts, hK, -⟩ := F
  unfold c_bastore at hc
  split at hc
  next hd =>
    unfold s_bastore at hs
    split at hs
    next v x a rest =>
      split at hs
      next n hsh =>
        split at hs
        · cases hs
        next hne =>
          cases hs
          simp only [show h_ct (w_i h a x.toNatClampNeg v.toInt8.toInt32) = h_ct h from rfl, show h_sl (w_i h a x.toNatClampNeg v.toInt8.toInt32) = h_sl h from rfl, Nat.sub_self, Nat.add_zero] at k
          refine W.bast hx hb (hW.at hsh) ((hK.1.2 1 _ rfl).1 n (fun j => .int (h_i h a j))) (fun q => by cases q) (by show ¬ (x < 0 ∨ (arrV _ _ _).slots.size ≤ _); rw [arrV_size]; exact hne) rfl rfl hd fun H1 e1 z oq => ?_
          refine k H1 _ rls (hW.put hsh z oq ?_ rfl rfl rfl (w_i_oth _ _ _ _)) (hS.put z oq (Ax_ad G a)) hL
          show H1[G.1 + a]? = some (vp_cell _ _)
          refine e1.trans (congrArg some ?_)
          show (vp_cell _ _).setSlot _ (.int v.toInt8.toInt32) = vp_cell _ (n, .inl (up2 (h_i h) a x.toNatClampNeg v.toInt8.toInt32 a))
          rw [vp_cell_i, vp_cell_i, arrV_store, up2_row]
          congr 1
          funext q
          by_cases hq : q = x.toNatClampNeg <;> simp [updV, hq]
      next n hsh =>
        split at hs
        · cases hs
        next hne =>
          cases hs
          simp only [show h_ct (w_i h a x.toNatClampNeg (v &&& 1)) = h_ct h from rfl, show h_sl (w_i h a x.toNatClampNeg (v &&& 1)) = h_sl h from rfl, Nat.sub_self, Nat.add_zero] at k
          refine W.zast hx hb (hW.at hsh) ((hK.1.2 2 _ rfl).1 n (fun j => .int (h_i h a j))) (fun q => by cases q) (by show ¬ (x < 0 ∨ (arrV _ _ _).slots.size ≤ _); rw [arrV_size]; exact hne) rfl rfl hd fun H1 e1 z oq => ?_
          refine k H1 _ rls (hW.put hsh z oq ?_ rfl rfl rfl (w_i_oth _ _ _ _)) (hS.put z oq (Ax_ad G a)) hL
          show H1[G.1 + a]? = some (vp_cell _ _)
          refine e1.trans (congrArg some ?_)
          show (vp_cell _ _).setSlot _ (.int (v &&& 1)) = vp_cell _ (n, .inl (up2 (h_i h) a x.toNatClampNeg (v &&& 1) a))
          rw [vp_cell_i, vp_cell_i, arrV_store, up2_row]
          congr 1
          funext q
          by_cases hq : q = x.toNatClampNeg <;> simp [updV, hq]
      · cases hs
    · cases hs
  · cases hc
