/-! the instructions that leave the heap as it is -/
def s_iadd : PSem := fun i pc ls st h => match st with
  | .int y :: .int x :: rest => some (pc + 1, ls, .int (x + y) :: rest, h)
  | _ => none
def c_iadd : PChk := fun _ _ cc pc _ => match decode cc pc with
  | .ok (.iadd, 1) => true
  | _ => false
theorem z_iadd : SoundP c_iadd s_iadd := by
  intro G p l e R s m args below meth c Q o ini cc nL i pc pls pst h r H locs cells slots rls F hc hs hW hS hL _ _ k
  obtain ⟨hx, hb, hml, hown, hts, -⟩ := F
  unfold c_iadd at hc
  split at hc
  next hd =>
    unfold s_iadd at hs
    split at hs
    next y x rest =>
      cases hs
      simp only [Nat.sub_self, Nat.add_zero] at k
      exact lv_iadd hx hb hd (k H locs rls hW hS hL)
    · cases hs
  · cases hc
def s_isub : PSem := fun i pc ls st h => match st with
  | .int y :: .int x :: rest => some (pc + 1, ls, .int (x - y) :: rest, h)
  | _ => none
def c_isub : PChk := fun _ _ cc pc _ => match decode cc pc with
  | .ok (.isub, 1) => true
  | _ => false
theorem z_isub : SoundP c_isub s_isub := by
  intro G p l e R s m args below meth c Q o ini cc nL i pc pls pst h r H locs cells slots rls F hc hs hW hS hL _ _ k
  obtain ⟨hx, hb, hml, hown, hts, -⟩ := F
  unfold c_isub at hc
  split at hc
  next hd =>
    unfold s_isub at hs
    split at hs
    next y x rest =>
      cases hs
      simp only [Nat.sub_self, Nat.add_zero] at k
      exact lv_isub hx hb hd (k H locs rls hW hS hL)
    · cases hs
  · cases hc
def s_imul : PSem := fun i pc ls st h => match st with
  | .int y :: .int x :: rest => some (pc + 1, ls, .int (x * y) :: rest, h)
  | _ => none
def c_imul : PChk := fun _ _ cc pc _ => match decode cc pc with
  | .ok (.imul, 1) => true
  | _ => false
theorem z_imul : SoundP c_imul s_imul := by
  intro G p l e R s m args below meth c Q o ini cc nL i pc pls pst h r H locs cells slots rls F hc hs hW hS hL _ _ k
  obtain ⟨hx, hb, hml, hown, hts, -⟩ := F
  unfold c_imul at hc
  split at hc
  next hd =>
    unfold s_imul at hs
    split at hs
    next y x rest =>
      cases hs
      simp only [Nat.sub_self, Nat.add_zero] at k
      exact lv_imul hx hb hd (k H locs rls hW hS hL)
    · cases hs
  · cases hc
def s_iand : PSem := fun i pc ls st h => match st with
  | .int y :: .int x :: rest => some (pc + 1, ls, .int (x &&& y) :: rest, h)
  | _ => none
def c_iand : PChk := fun _ _ cc pc _ => match decode cc pc with
  | .ok (.iand, 1) => true
  | _ => false
theorem z_iand : SoundP c_iand s_iand := by
  intro G p l e R s m args below meth c Q o ini cc nL i pc pls pst h r H locs cells slots rls F hc hs hW hS hL _ _ k
  obtain ⟨hx, hb, hml, hown, hts, -⟩ := F
  unfold c_iand at hc
  split at hc
  next hd =>
    unfold s_iand at hs
    split at hs
    next y x rest =>
      cases hs
      simp only [Nat.sub_self, Nat.add_zero] at k
      exact lv_iand hx hb hd (k H locs rls hW hS hL)
    · cases hs
  · cases hc
def s_ior : PSem := fun i pc ls st h => match st with
  | .int y :: .int x :: rest => some (pc + 1, ls, .int (x ||| y) :: rest, h)
  | _ => none
def c_ior : PChk := fun _ _ cc pc _ => match decode cc pc with
  | .ok (.ior, 1) => true
  | _ => false
theorem z_ior : SoundP c_ior s_ior := by
  intro G p l e R s m args below meth c Q o ini cc nL i pc pls pst h r H locs cells slots rls F hc hs hW hS hL _ _ k
  obtain ⟨hx, hb, hml, hown, hts, -⟩ := F
  unfold c_ior at hc
  split at hc
  next hd =>
    unfold s_ior at hs
    split at hs
    next y x rest =>
      cases hs
      simp only [Nat.sub_self, Nat.add_zero] at k
      exact lv_ior hx hb hd (k H locs rls hW hS hL)
    · cases hs
  · cases hc
def s_ixor : PSem := fun i pc ls st h => match st with
  | .int y :: .int x :: rest => some (pc + 1, ls, .int (x ^^^ y) :: rest, h)
  | _ => none
def c_ixor : PChk := fun _ _ cc pc _ => match decode cc pc with
  | .ok (.ixor, 1) => true
  | _ => false
theorem z_ixor : SoundP c_ixor s_ixor := by
  intro G p l e R s m args below meth c Q o ini cc nL i pc pls pst h r H locs cells slots rls F hc hs hW hS hL _ _ k
  obtain ⟨hx, hb, hml, hown, hts, -⟩ := F
  unfold c_ixor at hc
  split at hc
  next hd =>
    unfold s_ixor at hs
    split at hs
    next y x rest =>
      cases hs
      simp only [Nat.sub_self, Nat.add_zero] at k
      exact lv_ixor hx hb hd (k H locs rls hW hS hL)
    · cases hs
  · cases hc
def s_ishl : PSem := fun i pc ls st h => match st with
  | .int y :: .int x :: rest => some (pc + 1, ls, .int (x <<< (y &&& 31)) :: rest, h)
  | _ => none
def c_ishl : PChk := fun _ _ cc pc _ => match decode cc pc with
  | .ok (.ishl, 1) => true
  | _ => false
theorem z_ishl : SoundP c_ishl s_ishl := by
  intro G p l e R s m args below meth c Q o ini cc nL i pc pls pst h r H locs cells slots rls F hc hs hW hS hL _ _ k
  obtain ⟨hx, hb, hml, hown, hts, -⟩ := F
  unfold c_ishl at hc
  split at hc
  next hd =>
    unfold s_ishl at hs
    split at hs
    next y x rest =>
      cases hs
      simp only [Nat.sub_self, Nat.add_zero] at k
      exact lv_ishl hx hb hd (k H locs rls hW hS hL)
    · cases hs
  · cases hc
def s_ishr : PSem := fun i pc ls st h => match st with
  | .int y :: .int x :: rest => some (pc + 1, ls, .int (x >>> (y &&& 31)) :: rest, h)
  | _ => none
def c_ishr : PChk := fun _ _ cc pc _ => match decode cc pc with
  | .ok (.ishr, 1) => true
  | _ => false
theorem z_ishr : SoundP c_ishr s_ishr := by
  intro G p l e R s m args below meth c Q o ini cc nL i pc pls pst h r H locs cells slots rls F hc hs hW hS hL _ _ k
  obtain ⟨hx, hb, hml, hown, hts, -⟩ := F
  unfold c_ishr at hc
  split at hc
  next hd =>
    unfold s_ishr at hs
    split at hs
    next y x rest =>
      cases hs
      simp only [Nat.sub_self, Nat.add_zero] at k
      exact lv_ishr hx hb hd (k H locs rls hW hS hL)
    · cases hs
  · cases hc
def s_iushr : PSem := fun i pc ls st h => match st with
  | .int y :: .int x :: rest => some (pc + 1, ls, .int ((x.toUInt32 >>> (y.toUInt32 &&& Int32.toUInt32 31)).toInt32) :: rest, h)
  | _ => none
def c_iushr : PChk := fun _ _ cc pc _ => match decode cc pc with
  | .ok (.iushr, 1) => true
  | _ => false
theorem z_iushr : SoundP c_iushr s_iushr := by
  intro G p l e R s m args below meth c Q o ini cc nL i pc pls pst h r H locs cells slots rls F hc hs hW hS hL _ _ k
  obtain ⟨hx, hb, hml, hown, hts, -⟩ := F
  unfold c_iushr at hc
  split at hc
  next hd =>
    unfold s_iushr at hs
    split at hs
    next y x rest =>
      cases hs
      simp only [Nat.sub_self, Nat.add_zero] at k
      exact lv_iushr hx hb hd rfl (k H locs rls hW hS hL)
    · cases hs
  · cases hc
def s_idiv : PSem := fun i pc ls st h => match st with
  | .int y :: .int x :: rest => if y = 0 then none else some (pc + 1, ls, .int (x / y) :: rest, h)
  | _ => none
def c_idiv : PChk := fun _ _ cc pc _ => match decode cc pc with
  | .ok (.idiv, 1) => true
  | _ => false
theorem z_idiv : SoundP c_idiv s_idiv := by
  intro G p l e R s m args below meth c Q o ini cc nL i pc pls pst h r H locs cells slots rls F hc hs hW hS hL _ _ k
  obtain ⟨hx, hb, hml, hown, hts, -⟩ := F
  unfold c_idiv at hc
  split at hc
  next hd =>
    unfold s_idiv at hs
    split at hs
    next y x rest =>
      split at hs
      · cases hs
      next hne =>
        cases hs
        simp only [Nat.sub_self, Nat.add_zero] at k
        exact lv_idiv hx hb hd hne (k H locs rls hW hS hL)
    · cases hs
  · cases hc
def s_irem : PSem := fun i pc ls st h => match st with
  | .int y :: .int x :: rest => if y = 0 then none else some (pc + 1, ls, .int (x - x / y * y) :: rest, h)
  | _ => none
def c_irem : PChk := fun _ _ cc pc _ => match decode cc pc with
  | .ok (.irem, 1) => true
  | _ => false
theorem z_irem : SoundP c_irem s_irem := by
  intro G p l e R s m args below meth c Q o ini cc nL i pc pls pst h r H locs cells slots rls F hc hs hW hS hL _ _ k
  obtain ⟨hx, hb, hml, hown, hts, -⟩ := F
  unfold c_irem at hc
  split at hc
  next hd =>
    unfold s_irem at hs
    split at hs
    next y x rest =>
      split at hs
      · cases hs
      next hne =>
        cases hs
        simp only [Nat.sub_self, Nat.add_zero] at k
        exact lv_irem hx hb hd hne (k H locs rls hW hS hL)
    · cases hs
  · cases hc
def s_ladd : PSem := fun i pc ls st h => match st with
  | .long y :: .long x :: rest => some (pc + 1, ls, .long (x + y) :: rest, h)
  | _ => none
def c_ladd : PChk := fun _ _ cc pc _ => match decode cc pc with
  | .ok (.ladd, 1) => true
  | _ => false
theorem z_ladd : SoundP c_ladd s_ladd := by
  intro G p l e R s m args below meth c Q o ini cc nL i pc pls pst h r H locs cells slots rls F hc hs hW hS hL _ _ k
  obtain ⟨hx, hb, hml, hown, hts, -⟩ := F
  unfold c_ladd at hc
  split at hc
  next hd =>
    unfold s_ladd at hs
    split at hs
    next y x rest =>
      cases hs
      simp only [Nat.sub_self, Nat.add_zero] at k
      exact lv_ladd hx hb hd (k H locs rls hW hS hL)
    · cases hs
  · cases hc
def s_lsub : PSem := fun i pc ls st h => match st with
  | .long y :: .long x :: rest => some (pc + 1, ls, .long (x - y) :: rest, h)
  | _ => none
def c_lsub : PChk := fun _ _ cc pc _ => match decode cc pc with
  | .ok (.lsub, 1) => true
  | _ => false
theorem z_lsub : SoundP c_lsub s_lsub := by
  intro G p l e R s m args below meth c Q o ini cc nL i pc pls pst h r H locs cells slots rls F hc hs hW hS hL _ _ k
  obtain ⟨hx, hb, hml, hown, hts, -⟩ := F
  unfold c_lsub at hc
  split at hc
  next hd =>
    unfold s_lsub at hs
    split at hs
    next y x rest =>
      cases hs
      simp only [Nat.sub_self, Nat.add_zero] at k
      exact lv_lsub hx hb hd (k H locs rls hW hS hL)
    · cases hs
  · cases hc
def s_lmul : PSem := fun i pc ls st h => match st with
  | .long y :: .long x :: rest => some (pc + 1, ls, .long (x * y) :: rest, h)
  | _ => none
def c_lmul : PChk := fun _ _ cc pc _ => match decode cc pc with
  | .ok (.lmul, 1) => true
  | _ => false
theorem z_lmul : SoundP c_lmul s_lmul := by
  intro G p l e R s m args below meth c Q o ini cc nL i pc pls pst h r H locs cells slots rls F hc hs hW hS hL _ _ k
  obtain ⟨hx, hb, hml, hown, hts, -⟩ := F
  unfold c_lmul at hc
  split at hc
  next hd =>
    unfold s_lmul at hs
    split at hs
    next y x rest =>
      cases hs
      simp only [Nat.sub_self, Nat.add_zero] at k
      exact lv_lmul hx hb hd (k H locs rls hW hS hL)
    · cases hs
  · cases hc
def s_land : PSem := fun i pc ls st h => match st with
  | .long y :: .long x :: rest => some (pc + 1, ls, .long (x &&& y) :: rest, h)
  | _ => none
def c_land : PChk := fun _ _ cc pc _ => match decode cc pc with
  | .ok (.land, 1) => true
  | _ => false
theorem z_land : SoundP c_land s_land := by
  intro G p l e R s m args below meth c Q o ini cc nL i pc pls pst h r H locs cells slots rls F hc hs hW hS hL _ _ k
  obtain ⟨hx, hb, hml, hown, hts, -⟩ := F
  unfold c_land at hc
  split at hc
  next hd =>
    unfold s_land at hs
    split at hs
    next y x rest =>
      cases hs
      simp only [Nat.sub_self, Nat.add_zero] at k
      exact lv_land hx hb hd (k H locs rls hW hS hL)
    · cases hs
  · cases hc
def s_lor : PSem := fun i pc ls st h => match st with
  | .long y :: .long x :: rest => some (pc + 1, ls, .long (x ||| y) :: rest, h)
  | _ => none
def c_lor : PChk := fun _ _ cc pc _ => match decode cc pc with
  | .ok (.lor, 1) => true
  | _ => false
theorem z_lor : SoundP c_lor s_lor := by
  intro G p l e R s m args below meth c Q o ini cc nL i pc pls pst h r H locs cells slots rls F hc hs hW hS hL _ _ k
  obtain ⟨hx, hb, hml, hown, hts, -⟩ := F
  unfold c_lor at hc
  split at hc
  next hd =>
    unfold s_lor at hs
    split at hs
    next y x rest =>
      cases hs
      simp only [Nat.sub_self, Nat.add_zero] at k
      exact lv_lor hx hb hd (k H locs rls hW hS hL)
    · cases hs
  · cases hc
def s_lxor : PSem := fun i pc ls st h => match st with
  | .long y :: .long x :: rest => some (pc + 1, ls, .long (x ^^^ y) :: rest, h)
  | _ => none
def c_lxor : PChk := fun _ _ cc pc _ => match decode cc pc with
  | .ok (.lxor, 1) => true
  | _ => false
theorem z_lxor : SoundP c_lxor s_lxor := by
  intro G p l e R s m args below meth c Q o ini cc nL i pc pls pst h r H locs cells slots rls F hc hs hW hS hL _ _ k
  obtain ⟨hx, hb, hml, hown, hts, -⟩ := F
  unfold c_lxor at hc
  split at hc
  next hd =>
    unfold s_lxor at hs
    split at hs
    next y x rest =>
      cases hs
      simp only [Nat.sub_self, Nat.add_zero] at k
      exact lv_lxor hx hb hd (k H locs rls hW hS hL)
    · cases hs
  · cases hc
def s_ldiv : PSem := fun i pc ls st h => match st with
  | .long y :: .long x :: rest => if y = 0 then none else some (pc + 1, ls, .long (x / y) :: rest, h)
  | _ => none
def c_ldiv : PChk := fun _ _ cc pc _ => match decode cc pc with
  | .ok (.ldiv, 1) => true
  | _ => false
theorem z_ldiv : SoundP c_ldiv s_ldiv := by
  intro G p l e R s m args below meth c Q o ini cc nL i pc pls pst h r H locs cells slots rls F hc hs hW hS hL _ _ k
  obtain ⟨hx, hb, hml, hown, hts, -⟩ := F
  unfold c_ldiv at hc
  split at hc
  next hd =>
    unfold s_ldiv at hs
    split at hs
    next y x rest =>
      split at hs
      · cases hs
      next hne =>
        cases hs
        simp only [Nat.sub_self, Nat.add_zero] at k
        exact lv_ldiv hx hb hd hne (k H locs rls hW hS hL)
    · cases hs
  · cases hc
def s_lrem : PSem := fun i pc ls st h => match st with
  | .long y :: .long x :: rest => if y = 0 then none else some (pc + 1, ls, .long (x - x / y * y) :: rest, h)
  | _ => none
def c_lrem : PChk := fun _ _ cc pc _ => match decode cc pc with
  | .ok (.lrem, 1) => true
  | _ => false
theorem z_lrem : SoundP c_lrem s_lrem := by
  intro G p l e R s m args below meth c Q o ini cc nL i pc pls pst h r H locs cells slots rls F hc hs hW hS hL _ _ k
  obtain ⟨hx, hb, hml, hown, hts, -⟩ := F
  unfold c_lrem at hc
  split at hc
  next hd =>
    unfold s_lrem at hs
    split at hs
    next y x rest =>
      split at hs
      · cases hs
      next hne =>
        cases hs
        simp only [Nat.sub_self, Nat.add_zero] at k
        exact lv_lrem hx hb hd hne (k H locs rls hW hS hL)
    · cases hs
  · cases hc
def s_lshl : PSem := fun i pc ls st h => match st with
  | .int y :: .long x :: rest => some (pc + 1, ls, .long (x <<< (y.toInt64 &&& 63)) :: rest, h)
  | _ => none
def c_lshl : PChk := fun _ _ cc pc _ => match decode cc pc with
  | .ok (.lshl, 1) => true
  | _ => false
theorem z_lshl : SoundP c_lshl s_lshl := by
  intro G p l e R s m args below meth c Q o ini cc nL i pc pls pst h r H locs cells slots rls F hc hs hW hS hL _ _ k
  obtain ⟨hx, hb, hml, hown, hts, -⟩ := F
  unfold c_lshl at hc
  split at hc
  next hd =>
    unfold s_lshl at hs
    split at hs
    next y x rest =>
      cases hs
      simp only [Nat.sub_self, Nat.add_zero] at k
      exact lv_lshl hx hb hd rfl (k H locs rls hW hS hL)
    · cases hs
  · cases hc
def s_lushr : PSem := fun i pc ls st h => match st with
  | .int y :: .long x :: rest => some (pc + 1, ls, .long ((x.toUInt64 >>> (y.toInt64.toUInt64 &&& Int64.toUInt64 63)).toInt64) :: rest, h)
  | _ => none
def c_lushr : PChk := fun _ _ cc pc _ => match decode cc pc with
  | .ok (.lushr, 1) => true
  | _ => false
theorem z_lushr : SoundP c_lushr s_lushr := by
  intro G p l e R s m args below meth c Q o ini cc nL i pc pls pst h r H locs cells slots rls F hc hs hW hS hL _ _ k
  obtain ⟨hx, hb, hml, hown, hts, -⟩ := F
  unfold c_lushr at hc
  split at hc
  next hd =>
    unfold s_lushr at hs
    split at hs
    next y x rest =>
      cases hs
      simp only [Nat.sub_self, Nat.add_zero] at k
      exact lv_lushr hx hb hd rfl (k H locs rls hW hS hL)
    · cases hs
  · cases hc
def s_lcmp : PSem := fun i pc ls st h => match st with
  | .long y :: .long x :: rest => some (pc + 1, ls, .int (lg_cmp x y) :: rest, h)
  | _ => none
def c_lcmp : PChk := fun _ _ cc pc _ => match decode cc pc with
  | .ok (.lcmp, 1) => true
  | _ => false
theorem z_lcmp : SoundP c_lcmp s_lcmp := by
  intro G p l e R s m args below meth c Q o ini cc nL i pc pls pst h r H locs cells slots rls F hc hs hW hS hL _ _ k
  obtain ⟨hx, hb, hml, hown, hts, -⟩ := F
  unfold c_lcmp at hc
  split at hc
  next hd =>
    unfold s_lcmp at hs
    split at hs
    next y x rest =>
      cases hs
      simp only [Nat.sub_self, Nat.add_zero] at k
      exact W.lcmp hx hb hd (k H locs rls hW hS hL)
    · cases hs
  · cases hc
def s_ineg : PSem := fun i pc ls st h => match st with
  | .int x :: rest => some (pc + 1, ls, .int (-x) :: rest, h)
  | _ => none
def c_ineg : PChk := fun _ _ cc pc _ => match decode cc pc with
  | .ok (.ineg, 1) => true
  | _ => false
theorem z_ineg : SoundP c_ineg s_ineg := by
  intro G p l e R s m args below meth c Q o ini cc nL i pc pls pst h r H locs cells slots rls F hc hs hW hS hL _ _ k
  obtain ⟨hx, hb, hml, hown, hts, -⟩ := F
  unfold c_ineg at hc
  split at hc
  next hd =>
    unfold s_ineg at hs
    split at hs
    next x rest =>
      cases hs
      simp only [Nat.sub_self, Nat.add_zero] at k
      exact lv_ineg hx hb hd (k H locs rls hW hS hL)
    · cases hs
  · cases hc
def s_i2l : PSem := fun i pc ls st h => match st with
  | .int x :: rest => some (pc + 1, ls, .long x.toInt64 :: rest, h)
  | _ => none
def c_i2l : PChk := fun _ _ cc pc _ => match decode cc pc with
  | .ok (.i2l, 1) => true
  | _ => false
theorem z_i2l : SoundP c_i2l s_i2l := by
  intro G p l e R s m args below meth c Q o ini cc nL i pc pls pst h r H locs cells slots rls F hc hs hW hS hL _ _ k
  obtain ⟨hx, hb, hml, hown, hts, -⟩ := F
  unfold c_i2l at hc
  split at hc
  next hd =>
    unfold s_i2l at hs
    split at hs
    next x rest =>
      cases hs
      simp only [Nat.sub_self, Nat.add_zero] at k
      exact lv_i2l hx hb hd rfl (k H locs rls hW hS hL)
    · cases hs
  · cases hc
def s_l2i : PSem := fun i pc ls st h => match st with
  | .long x :: rest => some (pc + 1, ls, .int x.toInt32 :: rest, h)
  | _ => none
def c_l2i : PChk := fun _ _ cc pc _ => match decode cc pc with
  | .ok (.l2i, 1) => true
  | _ => false
theorem z_l2i : SoundP c_l2i s_l2i := by
  intro G p l e R s m args below meth c Q o ini cc nL i pc pls pst h r H locs cells slots rls F hc hs hW hS hL _ _ k
  obtain ⟨hx, hb, hml, hown, hts, -⟩ := F
  unfold c_l2i at hc
  split at hc
  next hd =>
    unfold s_l2i at hs
    split at hs
    next x rest =>
      cases hs
      simp only [Nat.sub_self, Nat.add_zero] at k
      exact lv_l2i hx hb hd rfl (k H locs rls hW hS hL)
    · cases hs
  · cases hc
def s_i2b : PSem := fun i pc ls st h => match st with
  | .int x :: rest => some (pc + 1, ls, .int x.toInt8.toInt32 :: rest, h)
  | _ => none
def c_i2b : PChk := fun _ _ cc pc _ => match decode cc pc with
  | .ok (.i2b, 1) => true
  | _ => false
theorem z_i2b : SoundP c_i2b s_i2b := by
  intro G p l e R s m args below meth c Q o ini cc nL i pc pls pst h r H locs cells slots rls F hc hs hW hS hL _ _ k
  obtain ⟨hx, hb, hml, hown, hts, -⟩ := F
  unfold c_i2b at hc
  split at hc
  next hd =>
    unfold s_i2b at hs
    split at hs
    next x rest =>
      cases hs
      simp only [Nat.sub_self, Nat.add_zero] at k
      exact lv_i2b hx hb hd rfl (k H locs rls hW hS hL)
    · cases hs
  · cases hc
def s_dup : PSem := fun i pc ls st h => match st with
  | v :: rest => if ¬ v.category = 1 then none else some (pc + 1, ls, v :: v :: rest, h)
  | _ => none
def c_dup : PChk := fun _ _ cc pc _ => match decode cc pc with
  | .ok (.dup, 1) => true
  | _ => false
theorem z_dup : SoundP c_dup s_dup := by
  intro G p l e R s m args below meth c Q o ini cc nL i pc pls pst h r H locs cells slots rls F hc hs hW hS hL _ _ k
  obtain ⟨hx, hb, hml, hown, hts, -⟩ := F
  unfold c_dup at hc
  split at hc
  next hd =>
    unfold s_dup at hs
    split at hs
    next v rest =>
      split at hs
      · cases hs
      next hne =>
        cases hs
        simp only [Nat.sub_self, Nat.add_zero] at k
        exact lv_dup hx hb hd ((tr_cat G _).trans (Decidable.not_not.mp hne)) (k H locs rls hW hS hL)
    · cases hs
  · cases hc
def s_pop : PSem := fun i pc ls st h => match st with
  | v :: rest => if ¬ v.category = 1 then none else some (pc + 1, ls, rest, h)
  | _ => none
def c_pop : PChk := fun _ _ cc pc _ => match decode cc pc with
  | .ok (.pop, 1) => true
  | _ => false
theorem z_pop : SoundP c_pop s_pop := by
  intro G p l e R s m args below meth c Q o ini cc nL i pc pls pst h r H locs cells slots rls F hc hs hW hS hL _ _ k
  obtain ⟨hx, hb, hml, hown, hts, -⟩ := F
  unfold c_pop at hc
  split at hc
  next hd =>
    unfold s_pop at hs
    split at hs
    next v rest =>
      split at hs
      · cases hs
      next hne =>
        cases hs
        simp only [Nat.sub_self, Nat.add_zero] at k
        exact lv_pop hx hb hd ((tr_cat G _).trans (Decidable.not_not.mp hne)) (k H locs rls hW hS hL)
    · cases hs
  · cases hc
def s_pop2 : PSem := fun i pc ls st h => match st with
  | v :: rest => if ¬ v.category = 2 then none else some (pc + 1, ls, rest, h)
  | _ => none
def c_pop2 : PChk := fun _ _ cc pc _ => match decode cc pc with
  | .ok (.pop2, 1) => true
  | _ => false
theorem z_pop2 : SoundP c_pop2 s_pop2 := by
  intro G p l e R s m args below meth c Q o ini cc nL i pc pls pst h r H locs cells slots rls F hc hs hW hS hL _ _ k
  obtain ⟨hx, hb, hml, hown, hts, -⟩ := F
  unfold c_pop2 at hc
  split at hc
  next hd =>
    unfold s_pop2 at hs
    split at hs
    next v rest =>
      split at hs
      · cases hs
      next hne =>
        cases hs
        simp only [Nat.sub_self, Nat.add_zero] at k
        exact lv_pop2_2 hx hb hd ((tr_cat G _).trans (Decidable.not_not.mp hne)) (k H locs rls hW hS hL)
    · cases hs
  · cases hc
def s_dup22 : PSem := fun i pc ls st h => match st with
  | v :: rest => if ¬ v.category = 2 then none else some (pc + 1, ls, v :: v :: rest, h)
  | _ => none
def c_dup22 : PChk := fun _ _ cc pc _ => match decode cc pc with
  | .ok (.dup2, 1) => true
  | _ => false
theorem z_dup22 : SoundP c_dup22 s_dup22 := by
  intro G p l e R s m args below meth c Q o ini cc nL i pc pls pst h r H locs cells slots rls F hc hs hW hS hL _ _ k
  obtain ⟨hx, hb, hml, hown, hts, -⟩ := F
  unfold c_dup22 at hc
  split at hc
  next hd =>
    unfold s_dup22 at hs
    split at hs
    next v rest =>
      split at hs
      · cases hs
      next hne =>
        cases hs
        simp only [Nat.sub_self, Nat.add_zero] at k
        exact lv_dup2_2 hx hb hd ((tr_cat G _).trans (Decidable.not_not.mp hne)) (k H locs rls hW hS hL)
    · cases hs
  · cases hc
def s_dup211 : PSem := fun i pc ls st h => match st with
  | v :: w :: rest => if ¬ (v.category = 1 ∧ w.category = 1) then none else some (pc + 1, ls, v :: w :: v :: w :: rest, h)
  | _ => none
def c_dup211 : PChk := fun _ _ cc pc _ => match decode cc pc with
  | .ok (.dup2, 1) => true
  | _ => false
theorem z_dup211 : SoundP c_dup211 s_dup211 := by
  intro G p l e R s m args below meth c Q o ini cc nL i pc pls pst h r H locs cells slots rls F hc hs hW hS hL _ _ k
  obtain ⟨hx, hb, hml, hown, hts, -⟩ := F
  unfold c_dup211 at hc
  split at hc
  next hd =>
    unfold s_dup211 at hs
    split at hs
    next v w rest =>
      split at hs
      · cases hs
      next hne =>
        cases hs
        simp only [Nat.sub_self, Nat.add_zero] at k
        exact lv_dup2_11 hx hb hd ((tr_cat G _).trans (Decidable.not_not.mp hne).1) ((tr_cat G _).trans (Decidable.not_not.mp hne).2) (k H locs rls hW hS hL)
    · cases hs
  · cases hc
def s_ipush : PSem := fun i pc ls st h => some (pc + p_len i, ls, .int (Int32.ofInt (p_a i)) :: st, h)
def c_ipush : PChk := fun o _ cc pc i => match decode cc pc with
  | .ok (.iconst n, 1) => p_len i == 1 && (Int32.ofInt n == Int32.ofInt (p_a i))
  | .ok (.bipush n, 2) => p_len i == 2 && ((Int8.ofInt n).toInt32 == Int32.ofInt (p_a i))
  | .ok (.sipush n, 3) => p_len i == 3 && ((Int16.ofInt n).toInt32 == Int32.ofInt (p_a i))
  | _ => false
theorem z_ipush : SoundP c_ipush s_ipush := by
  intro G p l e R s m args below meth c Q o ini cc nL i pc pls pst h r H locs cells slots rls F hc hs hW hS hL _ _ k
  obtain ⟨hx, hb, hml, hown, hts, -⟩ := F
  unfold s_ipush at hs
  cases hs
  simp only [Nat.sub_self, Nat.add_zero] at k
  try dsimp only at k
  unfold c_ipush at hc
  split at hc
  next n hd =>
    simp only [Bool.and_eq_true, beq_iff_eq] at hc
    obtain ⟨hl, hv⟩ := hc
    rw [hl] at k
    exact lv_iconst hx hb hd hv (k H locs rls hW hS hL)
  next n hd =>
    simp only [Bool.and_eq_true, beq_iff_eq] at hc
    obtain ⟨hl, hv⟩ := hc
    rw [hl] at k
    exact lv_bipush hx hb hd hv (k H locs rls hW hS hL)
  next n hd =>
    simp only [Bool.and_eq_true, beq_iff_eq] at hc
    obtain ⟨hl, hv⟩ := hc
    rw [hl] at k
    exact lv_sipush hx hb hd hv (k H locs rls hW hS hL)
  · cases hc
def s_lpush : PSem := fun i pc ls st h => some (pc + p_len i, ls, .long (Int64.ofInt (p_a i)) :: st, h)
def c_lpush : PChk := fun o _ cc pc i => match decode cc pc with
  | .ok (.lconst n, 1) => p_len i == 1 && (Int64.ofNat (n : Nat) == Int64.ofInt (p_a i))
  | _ => false
theorem z_lpush : SoundP c_lpush s_lpush := by
  intro G p l e R s m args below meth c Q o ini cc nL i pc pls pst h r H locs cells slots rls F hc hs hW hS hL _ _ k
  obtain ⟨hx, hb, hml, hown, hts, -⟩ := F
  unfold s_lpush at hs
  cases hs
  simp only [Nat.sub_self, Nat.add_zero] at k
  try dsimp only at k
  unfold c_lpush at hc
  split at hc
  next n hd =>
    simp only [Bool.and_eq_true, beq_iff_eq] at hc
    obtain ⟨hl, hv⟩ := hc
    rw [hl] at k
    exact lv_lconst hx hb hd hv (k H locs rls hW hS hL)
  · cases hc
def s_ldc : PSem := fun i pc ls st h => some (pc + p_len i, ls, .int (Int32.ofInt (p_a i)) :: st, h)
def c_ldc : PChk := fun o _ cc pc i => match decode cc pc with
  | .ok (.ldc n, 2) => p_len i == 2 && decide (lw_tbl[p_b i]? = some (.constant (cN o) n (Int32.ofInt (p_a i)))) && goodWord (.constant (cN o) n (Int32.ofInt (p_a i)))
  | .ok (.ldc_w n, 3) => p_len i == 3 && decide (lw_tbl[p_b i]? = some (.constant (cN o) n (Int32.ofInt (p_a i)))) && goodWord (.constant (cN o) n (Int32.ofInt (p_a i)))
  | _ => false
theorem z_ldc : SoundP c_ldc s_ldc := by
  intro G p l e R s m args below meth c Q o ini cc nL i pc pls pst h r H locs cells slots rls F hc hs hW hS hL _ _ k
  obtain ⟨hx, hb, hml, hown, hts, -⟩ := F
  unfold s_ldc at hs
  cases hs
  simp only [Nat.sub_self, Nat.add_zero] at k
  try dsimp only at k
  unfold c_ldc at hc
  split at hc
  next n hd =>
    simp only [Bool.and_eq_true, beq_iff_eq, decide_eq_true_eq] at hc
    obtain ⟨⟨hl, hv⟩, hg⟩ := hc
    rw [hl] at k
    exact lv_ldc hx hb hown (hts _ (gt_in _ hv hg)) hd (k H locs rls hW hS hL)
  next n hd =>
    simp only [Bool.and_eq_true, beq_iff_eq, decide_eq_true_eq] at hc
    obtain ⟨⟨hl, hv⟩, hg⟩ := hc
    rw [hl] at k
    exact lv_ldcw hx hb hown (hts _ (gt_in _ hv hg)) hd (k H locs rls hW hS hL)
  · cases hc
def s_ldc2 : PSem := fun i pc ls st h => some (pc + p_len i, ls, .long (Int64.ofInt (p_a i)) :: st, h)
def c_ldc2 : PChk := fun o _ cc pc i => match decode cc pc with
  | .ok (.ldc2_w n, 3) => p_len i == 3 && decide (lw_tbl[p_b i]? = some (.constantLong (cN o) n (Int64.ofInt (p_a i)))) && goodWord (.constantLong (cN o) n (Int64.ofInt (p_a i)))
  | _ => false
theorem z_ldc2 : SoundP c_ldc2 s_ldc2 := by
  intro G p l e R s m args below meth c Q o ini cc nL i pc pls pst h r H locs cells slots rls F hc hs hW hS hL _ _ k
  obtain ⟨hx, hb, hml, hown, hts, -⟩ := F
  unfold s_ldc2 at hs
  cases hs
  simp only [Nat.sub_self, Nat.add_zero] at k
  try dsimp only at k
  unfold c_ldc2 at hc
  split at hc
  next n hd =>
    simp only [Bool.and_eq_true, beq_iff_eq, decide_eq_true_eq] at hc
    obtain ⟨⟨hl, hv⟩, hg⟩ := hc
    rw [hl] at k
    exact lv_ldc2 hx hb hown (hts _ (gt_in _ hv hg)) hd (k H locs rls hW hS hL)
  · cases hc
def s_iload : PSem := fun i pc ls st h => match ls[p_b i]? with
  | some (.int x) => some (pc + p_len i, ls, .int x :: st, h)
  | _ => none
def c_iload : PChk := fun _ _ cc pc i => match decode cc pc with
  | .ok (.iload_n n, 1) => p_len i == 1 && n.val == p_b i
  | .ok (.iload n, 2) => p_len i == 2 && n == p_b i
  | _ => false
theorem z_iload : SoundP c_iload s_iload := by
  intro G p l e R s m args below meth c Q o ini cc nL i pc pls pst h r H locs cells slots rls F hc hs hW hS hL _ _ k
  obtain ⟨hx, hb, hml, hown, hts, -⟩ := F
  unfold s_iload at hs
  split at hs
  next x hv =>
    cases hs
    simp only [Nat.sub_self, Nat.add_zero] at k
    try dsimp only at k
    unfold c_iload at hc
    split at hc
    next n hd =>
      simp only [Bool.and_eq_true, beq_iff_eq] at hc
      rw [hc.1] at k
      exact lv_iload_n hx hb hd hc.2 (hL.at hv rfl) (k H locs rls hW hS hL)
    next n hd =>
      simp only [Bool.and_eq_true, beq_iff_eq] at hc
      rw [hc.1] at k
      rw [hc.2] at hd
      exact lv_iload hx hb hd (hL.at hv rfl) (k H locs rls hW hS hL)
    · cases hc
  · cases hs
def s_aload : PSem := fun i pc ls st h => match ls[p_b i]? with
  | some (.ref x) => some (pc + p_len i, ls, .ref x :: st, h)
  | _ => none
def c_aload : PChk := fun _ _ cc pc i => match decode cc pc with
  | .ok (.aload_n n, 1) => p_len i == 1 && n.val == p_b i
  | .ok (.aload n, 2) => p_len i == 2 && n == p_b i
  | _ => false
theorem z_aload : SoundP c_aload s_aload := by
  intro G p l e R s m args below meth c Q o ini cc nL i pc pls pst h r H locs cells slots rls F hc hs hW hS hL _ _ k
  obtain ⟨hx, hb, hml, hown, hts, -⟩ := F
  unfold s_aload at hs
  split at hs
  next x hv =>
    cases hs
    simp only [Nat.sub_self, Nat.add_zero] at k
    try dsimp only at k
    unfold c_aload at hc
    split at hc
    next n hd =>
      simp only [Bool.and_eq_true, beq_iff_eq] at hc
      rw [hc.1] at k
      exact lv_aload_n hx hb hd hc.2 (hL.at hv rfl) (k H locs rls hW hS hL)
    next n hd =>
      simp only [Bool.and_eq_true, beq_iff_eq] at hc
      rw [hc.1] at k
      rw [hc.2] at hd
      exact lv_aload hx hb hd (hL.at hv rfl) (k H locs rls hW hS hL)
    · cases hc
  · cases hs
def s_lload : PSem := fun i pc ls st h => match ls[p_b i]? with
  | some (.long x) => if okv ls (p_b i) (.long x) = true then some (pc + p_len i, ls, .long x :: st, h) else none
  | _ => none
def c_lload : PChk := fun _ _ cc pc i => match decode cc pc with
  | .ok (.lload_n n, 1) => p_len i == 1 && n.val == p_b i
  | .ok (.lload n, 2) => p_len i == 2 && n == p_b i
  | _ => false
theorem z_lload : SoundP c_lload s_lload := by
  intro G p l e R s m args below meth c Q o ini cc nL i pc pls pst h r H locs cells slots rls F hc hs hW hS hL _ _ k
  obtain ⟨hx, hb, hml, hown, hts, -⟩ := F
  unfold s_lload at hs
  split at hs
  next x hv =>
    split at hs
    next ho =>
      cases hs
      simp only [Nat.sub_self, Nat.add_zero] at k
      try dsimp only at k
      unfold c_lload at hc
      split at hc
      next n hd =>
        simp only [Bool.and_eq_true, beq_iff_eq] at hc
        rw [hc.1] at k
        exact lv_lload_n hx hb hd hc.2 (hL.at hv ho) (k H locs rls hW hS hL)
      next n hd =>
        simp only [Bool.and_eq_true, beq_iff_eq] at hc
        rw [hc.1] at k
        rw [hc.2] at hd
        exact lv_lload hx hb hd (hL.at hv ho) (k H locs rls hW hS hL)
      · cases hc
    · cases hs
  · cases hs
def s_aloadS : PSem := fun i pc ls st h => match ls[p_b i]? with
  | some (.retAddr x) => if okv ls (p_b i) (.retAddr x) = true then some (pc + p_len i, ls, .retAddr x :: st, h) else none
  | _ => none
def c_aloadS : PChk := fun _ _ cc pc i => match decode cc pc with
  | .ok (.aload_n n, 1) => p_len i == 1 && n.val == p_b i
  | .ok (.aload n, 2) => p_len i == 2 && n == p_b i
  | _ => false
theorem z_aloadS : SoundP c_aloadS s_aloadS := by
  intro G p l e R s m args below meth c Q o ini cc nL i pc pls pst h r H locs cells slots rls F hc hs hW hS hL _ _ k
  obtain ⟨hx, hb, hml, hown, hts, -⟩ := F
  unfold s_aloadS at hs
  split at hs
  next x hv =>
    split at hs
    next ho =>
      cases hs
      simp only [Nat.sub_self, Nat.add_zero] at k
      try dsimp only at k
      unfold c_aloadS at hc
      split at hc
      next n hd =>
        simp only [Bool.and_eq_true, beq_iff_eq] at hc
        rw [hc.1] at k
        exact lv_aload_n hx hb hd hc.2 (hL.at hv ho) (k H locs rls hW hS hL)
      next n hd =>
        simp only [Bool.and_eq_true, beq_iff_eq] at hc
        rw [hc.1] at k
        rw [hc.2] at hd
        exact lv_aload hx hb hd (hL.at hv ho) (k H locs rls hW hS hL)
      · cases hc
    · cases hs
  · cases hs
def s_istore : PSem := fun i pc ls st h => match st with
  | .int x :: rest => if p_b i < ls.length then some (pc + p_len i, ls.set (p_b i) (.int x), rest, h) else none
  | _ => none
def c_istore : PChk := fun _ _ cc pc i => match decode cc pc with
  | .ok (.istore_n n, 1) => p_len i == 1 && n.val == p_b i
  | .ok (.istore n, 2) => p_len i == 2 && n == p_b i
  | _ => false
theorem z_istore : SoundP c_istore s_istore := by
  intro G p l e R s m args below meth c Q o ini cc nL i pc pls pst h r H locs cells slots rls F hc hs hW hS hL _ _ k
  obtain ⟨hx, hb, hml, hown, hts, -⟩ := F
  unfold s_istore at hs
  split at hs
  next x rest =>
    split at hs
    next hlt =>
      cases hs
      simp only [Nat.sub_self, Nat.add_zero] at k
      try dsimp only at k
      unfold c_istore at hc
      split at hc
      next n hd =>
        simp only [Bool.and_eq_true, beq_iff_eq] at hc
        rw [hc.1] at k
        exact lv_istore_n hx hb hd hc.2 hL.1 (by rw [← hL.2]; exact hlt) rfl (fun ls hl => k H locs ls hW hS ⟨lv_mono hl (lvs_set1 (v := .int x) (by intro q; cases q)), by rw [List.length_set]; exact hL.2⟩)
      next n hd =>
        simp only [Bool.and_eq_true, beq_iff_eq] at hc
        rw [hc.1] at k
        rw [hc.2] at hd
        exact lv_istore hx hb hd hL.1 (by rw [← hL.2]; exact hlt) rfl (fun ls hl => k H locs ls hW hS ⟨lv_mono hl (lvs_set1 (v := .int x) (by intro q; cases q)), by rw [List.length_set]; exact hL.2⟩)
      · cases hc
    · cases hs
  · cases hs
def s_astore : PSem := fun i pc ls st h => match st with
  | .ref x :: rest => if p_b i < ls.length then some (pc + p_len i, ls.set (p_b i) (.ref x), rest, h) else none
  | _ => none
def c_astore : PChk := fun _ _ cc pc i => match decode cc pc with
  | .ok (.astore_n n, 1) => p_len i == 1 && n.val == p_b i
  | .ok (.astore n, 2) => p_len i == 2 && n == p_b i
  | _ => false
theorem z_astore : SoundP c_astore s_astore := by
  intro G p l e R s m args below meth c Q o ini cc nL i pc pls pst h r H locs cells slots rls F hc hs hW hS hL _ _ k
  obtain ⟨hx, hb, hml, hown, hts, -⟩ := F
  unfold s_astore at hs
  split at hs
  next x rest =>
    split at hs
    next hlt =>
      cases hs
      simp only [Nat.sub_self, Nat.add_zero] at k
      try dsimp only at k
      unfold c_astore at hc
      split at hc
      next n hd =>
        simp only [Bool.and_eq_true, beq_iff_eq] at hc
        rw [hc.1] at k
        exact lv_astore_n hx hb hd hc.2 hL.1 (by rw [← hL.2]; exact hlt) rfl (fun ls hl => k H locs ls hW hS ⟨lv_mono hl (lvs_set1 (v := .ref x) (by intro q; cases q)), by rw [List.length_set]; exact hL.2⟩)
      next n hd =>
        simp only [Bool.and_eq_true, beq_iff_eq] at hc
        rw [hc.1] at k
        rw [hc.2] at hd
        exact lv_astore hx hb hd hL.1 (by rw [← hL.2]; exact hlt) rfl (fun ls hl => k H locs ls hW hS ⟨lv_mono hl (lvs_set1 (v := .ref x) (by intro q; cases q)), by rw [List.length_set]; exact hL.2⟩)
      · cases hc
    · cases hs
  · cases hs
def s_lstore : PSem := fun i pc ls st h => match st with
  | .long x :: rest => if p_b i + 1 < ls.length then some (pc + p_len i, (ls.set (p_b i) (.long x)).set (p_b i + 1) (.retAddr 2), rest, h) else none
  | _ => none
def c_lstore : PChk := fun _ _ cc pc i => match decode cc pc with
  | .ok (.lstore_n n, 1) => p_len i == 1 && n.val == p_b i
  | .ok (.lstore n, 2) => p_len i == 2 && n == p_b i
  | _ => false
theorem z_lstore : SoundP c_lstore s_lstore := by
  intro G p l e R s m args below meth c Q o ini cc nL i pc pls pst h r H locs cells slots rls F hc hs hW hS hL _ _ k
  obtain ⟨hx, hb, hml, hown, hts, -⟩ := F
  unfold s_lstore at hs
  split at hs
  next x rest =>
    split at hs
    next hlt =>
      cases hs
      simp only [Nat.sub_self, Nat.add_zero] at k
      try dsimp only at k
      unfold c_lstore at hc
      split at hc
      next n hd =>
        simp only [Bool.and_eq_true, beq_iff_eq] at hc
        rw [hc.1] at k
        exact lv_lstore_n hx hb hd hc.2 hL.1 (by rw [← hL.2]; exact hlt) rfl (fun ls hl => k H locs ls hW hS ⟨lv_mono hl lvs_set2, by rw [List.length_set, List.length_set]; exact hL.2⟩)
      next n hd =>
        simp only [Bool.and_eq_true, beq_iff_eq] at hc
        rw [hc.1] at k
        rw [hc.2] at hd
        exact lv_lstore hx hb hd hL.1 (by rw [← hL.2]; exact hlt) rfl (fun ls hl => k H locs ls hW hS ⟨lv_mono hl lvs_set2, by rw [List.length_set, List.length_set]; exact hL.2⟩)
      · cases hc
    · cases hs
  · cases hs
def s_iinc : PSem := fun i pc ls st h => match ls[p_b i]? with
  | some (.int x) => some (pc + 3, ls.set (p_b i) (.int (x + Int32.ofInt (p_a i))), st, h)
  | _ => none
def c_iinc : PChk := fun _ _ cc pc i => match decode cc pc with
  | .ok (.iinc n a, 3) => n == p_b i && a == p_a i
  | _ => false
theorem z_iinc : SoundP c_iinc s_iinc := by
  intro G p l e R s m args below meth c Q o ini cc nL i pc pls pst h r H locs cells slots rls F hc hs hW hS hL _ _ k
  obtain ⟨hx, hb, hml, hown, hts, -⟩ := F
  unfold s_iinc at hs
  split at hs
  next x hv =>
    cases hs
    simp only [Nat.sub_self, Nat.add_zero] at k
    unfold c_iinc at hc
    split at hc
    next n a hd =>
      simp only [Bool.and_eq_true, beq_iff_eq] at hc
      rw [hc.1, hc.2] at hd
      obtain ⟨kk, hkk⟩ := List.getElem?_of_mem (mem_lvs.mpr ⟨_, hv, rfl, rfl⟩ : (p_b i, tr G (.int x)) ∈ lvs G pls)
      refine lv_iinc hx hb hd hL.1 hkk rfl (by rw [← hL.2]; exact (List.getElem?_eq_some_iff.mp hv).1) rfl ?_
      exact fun ls hl => k H locs ls hW hS ⟨lv_mono hl (lvs_set1 (v := .int (x + Int32.ofInt (p_a i))) (by intro q; cases q)), by rw [List.length_set]; exact hL.2⟩
    · cases hc
  · cases hs
def s_if_eq : PSem := fun i pc ls st h => match st with
  | .int x :: rest => some (if x = 0 then p_b i else pc + 3, ls, rest, h)
  | _ => none
def c_if_eq : PChk := fun _ _ cc pc i => match decode cc pc with
  | .ok (.ifCond .eq off, 3) => decide ((pc : Int) + off = (p_b i : Int))
  | _ => false
theorem z_if_eq : SoundP c_if_eq s_if_eq := by
  intro G p l e R s m args below meth c Q o ini cc nL i pc pls pst h r H locs cells slots rls F hc hs hW hS hL _ _ k
  obtain ⟨hx, hb, hml, hown, hts, -⟩ := F
  unfold c_if_eq at hc
  split at hc
  next off hd =>
    have ht := of_decide_eq_true hc
    unfold s_if_eq at hs
    split at hs
    next x rest =>
      cases hs
      simp only [Nat.sub_self, Nat.add_zero] at k
      exact lv_if_eq hx hb hd ht (fun hz => by have k := k H locs rls hW hS hL; rw [if_pos hz] at k; exact k) (fun hz => by have k := k H locs rls hW hS hL; rw [if_neg hz] at k; exact k)
    · cases hs
  · cases hc
def s_icmp_eq : PSem := fun i pc ls st h => match st with
  | .int y :: .int x :: rest => some (if x = y then p_b i else pc + 3, ls, rest, h)
  | _ => none
def c_icmp_eq : PChk := fun _ _ cc pc i => match decode cc pc with
  | .ok (.if_icmp .eq off, 3) => decide ((pc : Int) + off = (p_b i : Int))
  | _ => false
theorem z_icmp_eq : SoundP c_icmp_eq s_icmp_eq := by
  intro G p l e R s m args below meth c Q o ini cc nL i pc pls pst h r H locs cells slots rls F hc hs hW hS hL _ _ k
  obtain ⟨hx, hb, hml, hown, hts, -⟩ := F
  unfold c_icmp_eq at hc
  split at hc
  next off hd =>
    have ht := of_decide_eq_true hc
    unfold s_icmp_eq at hs
    split at hs
    next y x rest =>
      cases hs
      simp only [Nat.sub_self, Nat.add_zero] at k
      exact lv_icmp_eq hx hb hd ht (fun hz => by have k := k H locs rls hW hS hL; rw [if_pos hz] at k; exact k) (fun hz => by have k := k H locs rls hW hS hL; rw [if_neg hz] at k; exact k)
    · cases hs
  · cases hc
def s_if_ne : PSem := fun i pc ls st h => match st with
  | .int x :: rest => some (if x = 0 then pc + 3 else p_b i, ls, rest, h)
  | _ => none
def c_if_ne : PChk := fun _ _ cc pc i => match decode cc pc with
  | .ok (.ifCond .ne off, 3) => decide ((pc : Int) + off = (p_b i : Int))
  | _ => false
theorem z_if_ne : SoundP c_if_ne s_if_ne := by
  intro G p l e R s m args below meth c Q o ini cc nL i pc pls pst h r H locs cells slots rls F hc hs hW hS hL _ _ k
  obtain ⟨hx, hb, hml, hown, hts, -⟩ := F
  unfold c_if_ne at hc
  split at hc
  next off hd =>
    have ht := of_decide_eq_true hc
    unfold s_if_ne at hs
    split at hs
    next x rest =>
      cases hs
      simp only [Nat.sub_self, Nat.add_zero] at k
      exact lv_if_ne hx hb hd ht (fun hz => by have k := k H locs rls hW hS hL; rw [if_neg hz] at k; exact k) (fun hz => by have k := k H locs rls hW hS hL; rw [if_pos hz] at k; exact k)
    · cases hs
  · cases hc
def s_icmp_ne : PSem := fun i pc ls st h => match st with
  | .int y :: .int x :: rest => some (if x = y then pc + 3 else p_b i, ls, rest, h)
  | _ => none
def c_icmp_ne : PChk := fun _ _ cc pc i => match decode cc pc with
  | .ok (.if_icmp .ne off, 3) => decide ((pc : Int) + off = (p_b i : Int))
  | _ => false
theorem z_icmp_ne : SoundP c_icmp_ne s_icmp_ne := by
  intro G p l e R s m args below meth c Q o ini cc nL i pc pls pst h r H locs cells slots rls F hc hs hW hS hL _ _ k
  obtain ⟨hx, hb, hml, hown, hts, -⟩ := F
  unfold c_icmp_ne at hc
  split at hc
  next off hd =>
    have ht := of_decide_eq_true hc
    unfold s_icmp_ne at hs
    split at hs
    next y x rest =>
      cases hs
      simp only [Nat.sub_self, Nat.add_zero] at k
      exact lv_icmp_ne hx hb hd ht (fun hz => by have k := k H locs rls hW hS hL; rw [if_neg hz] at k; exact k) (fun hz => by have k := k H locs rls hW hS hL; rw [if_pos hz] at k; exact k)
    · cases hs
  · cases hc
def s_if_lt : PSem := fun i pc ls st h => match st with
  | .int x :: rest => some (if x < 0 then p_b i else pc + 3, ls, rest, h)
  | _ => none
def c_if_lt : PChk := fun _ _ cc pc i => match decode cc pc with
  | .ok (.ifCond .lt off, 3) => decide ((pc : Int) + off = (p_b i : Int))
  | _ => false
theorem z_if_lt : SoundP c_if_lt s_if_lt := by
  intro G p l e R s m args below meth c Q o ini cc nL i pc pls pst h r H locs cells slots rls F hc hs hW hS hL _ _ k
  obtain ⟨hx, hb, hml, hown, hts, -⟩ := F
  unfold c_if_lt at hc
  split at hc
  next off hd =>
    have ht := of_decide_eq_true hc
    unfold s_if_lt at hs
    split at hs
    next x rest =>
      cases hs
      simp only [Nat.sub_self, Nat.add_zero] at k
      exact lv_if_lt hx hb hd ht (fun hz => by have k := k H locs rls hW hS hL; rw [if_pos hz] at k; exact k) (fun hz => by have k := k H locs rls hW hS hL; rw [if_neg hz] at k; exact k)
    · cases hs
  · cases hc
def s_icmp_lt : PSem := fun i pc ls st h => match st with
  | .int y :: .int x :: rest => some (if x < y then p_b i else pc + 3, ls, rest, h)
  | _ => none
def c_icmp_lt : PChk := fun _ _ cc pc i => match decode cc pc with
  | .ok (.if_icmp .lt off, 3) => decide ((pc : Int) + off = (p_b i : Int))
  | _ => false
theorem z_icmp_lt : SoundP c_icmp_lt s_icmp_lt := by
  intro G p l e R s m args below meth c Q o ini cc nL i pc pls pst h r H locs cells slots rls F hc hs hW hS hL _ _ k
  obtain ⟨hx, hb, hml, hown, hts, -⟩ := F
  unfold c_icmp_lt at hc
  split at hc
  next off hd =>
    have ht := of_decide_eq_true hc
    unfold s_icmp_lt at hs
    split at hs
    next y x rest =>
      cases hs
      simp only [Nat.sub_self, Nat.add_zero] at k
      exact lv_icmp_lt hx hb hd ht (fun hz => by have k := k H locs rls hW hS hL; rw [if_pos hz] at k; exact k) (fun hz => by have k := k H locs rls hW hS hL; rw [if_neg hz] at k; exact k)
    · cases hs
  · cases hc
def s_if_ge : PSem := fun i pc ls st h => match st with
  | .int x :: rest => some (if 0 ≤ x then p_b i else pc + 3, ls, rest, h)
  | _ => none
def c_if_ge : PChk := fun _ _ cc pc i => match decode cc pc with
  | .ok (.ifCond .ge off, 3) => decide ((pc : Int) + off = (p_b i : Int))
  | _ => false
theorem z_if_ge : SoundP c_if_ge s_if_ge := by
  intro G p l e R s m args below meth c Q o ini cc nL i pc pls pst h r H locs cells slots rls F hc hs hW hS hL _ _ k
  obtain ⟨hx, hb, hml, hown, hts, -⟩ := F
  unfold c_if_ge at hc
  split at hc
  next off hd =>
    have ht := of_decide_eq_true hc
    unfold s_if_ge at hs
    split at hs
    next x rest =>
      cases hs
      simp only [Nat.sub_self, Nat.add_zero] at k
      exact lv_if_ge hx hb hd ht (fun hz => by have k := k H locs rls hW hS hL; rw [if_pos hz] at k; exact k) (fun hz => by have k := k H locs rls hW hS hL; rw [if_neg hz] at k; exact k)
    · cases hs
  · cases hc
def s_icmp_ge : PSem := fun i pc ls st h => match st with
  | .int y :: .int x :: rest => some (if y ≤ x then p_b i else pc + 3, ls, rest, h)
  | _ => none
def c_icmp_ge : PChk := fun _ _ cc pc i => match decode cc pc with
  | .ok (.if_icmp .ge off, 3) => decide ((pc : Int) + off = (p_b i : Int))
  | _ => false
theorem z_icmp_ge : SoundP c_icmp_ge s_icmp_ge := by
  intro G p l e R s m args below meth c Q o ini cc nL i pc pls pst h r H locs cells slots rls F hc hs hW hS hL _ _ k
  obtain ⟨hx, hb, hml, hown, hts, -⟩ := F
  unfold c_icmp_ge at hc
  split at hc
  next off hd =>
    have ht := of_decide_eq_true hc
    unfold s_icmp_ge at hs
    split at hs
    next y x rest =>
      cases hs
      simp only [Nat.sub_self, Nat.add_zero] at k
      exact lv_icmp_ge hx hb hd ht (fun hz => by have k := k H locs rls hW hS hL; rw [if_pos hz] at k; exact k) (fun hz => by have k := k H locs rls hW hS hL; rw [if_neg hz] at k; exact k)
    · cases hs
  · cases hc
def s_if_gt : PSem := fun i pc ls st h => match st with
  | .int x :: rest => some (if 0 < x then p_b i else pc + 3, ls, rest, h)
  | _ => none
def c_if_gt : PChk := fun _ _ cc pc i => match decode cc pc with
  | .ok (.ifCond .gt off, 3) => decide ((pc : Int) + off = (p_b i : Int))
  | _ => false
theorem z_if_gt : SoundP c_if_gt s_if_gt := by
  intro G p l e R s m args below meth c Q o ini cc nL i pc pls pst h r H locs cells slots rls F hc hs hW hS hL _ _ k
  obtain ⟨hx, hb, hml, hown, hts, -⟩ := F
  unfold c_if_gt at hc
  split at hc
  next off hd =>
    have ht := of_decide_eq_true hc
    unfold s_if_gt at hs
    split at hs
    next x rest =>
      cases hs
      simp only [Nat.sub_self, Nat.add_zero] at k
      exact lv_if_gt hx hb hd ht (fun hz => by have k := k H locs rls hW hS hL; rw [if_pos hz] at k; exact k) (fun hz => by have k := k H locs rls hW hS hL; rw [if_neg hz] at k; exact k)
    · cases hs
  · cases hc
def s_icmp_gt : PSem := fun i pc ls st h => match st with
  | .int y :: .int x :: rest => some (if y < x then p_b i else pc + 3, ls, rest, h)
  | _ => none
def c_icmp_gt : PChk := fun _ _ cc pc i => match decode cc pc with
  | .ok (.if_icmp .gt off, 3) => decide ((pc : Int) + off = (p_b i : Int))
  | _ => false
theorem z_icmp_gt : SoundP c_icmp_gt s_icmp_gt := by
  intro G p l e R s m args below meth c Q o ini cc nL i pc pls pst h r H locs cells slots rls F hc hs hW hS hL _ _ k
  obtain ⟨hx, hb, hml, hown, hts, -⟩ := F
  unfold c_icmp_gt at hc
  split at hc
  next off hd =>
    have ht := of_decide_eq_true hc
    unfold s_icmp_gt at hs
    split at hs
    next y x rest =>
      cases hs
      simp only [Nat.sub_self, Nat.add_zero] at k
      exact lv_icmp_gt hx hb hd ht (fun hz => by have k := k H locs rls hW hS hL; rw [if_pos hz] at k; exact k) (fun hz => by have k := k H locs rls hW hS hL; rw [if_neg hz] at k; exact k)
    · cases hs
  · cases hc
def s_if_le : PSem := fun i pc ls st h => match st with
  | .int x :: rest => some (if x ≤ 0 then p_b i else pc + 3, ls, rest, h)
  | _ => none
def c_if_le : PChk := fun _ _ cc pc i => match decode cc pc with
  | .ok (.ifCond .le off, 3) => decide ((pc : Int) + off = (p_b i : Int))
  | _ => false
theorem z_if_le : SoundP c_if_le s_if_le := by
  intro G p l e R s m args below meth c Q o ini cc nL i pc pls pst h r H locs cells slots rls F hc hs hW hS hL _ _ k
  obtain ⟨hx, hb, hml, hown, hts, -⟩ := F
  unfold c_if_le at hc
  split at hc
  next off hd =>
    have ht := of_decide_eq_true hc
    unfold s_if_le at hs
    split at hs
    next x rest =>
      cases hs
      simp only [Nat.sub_self, Nat.add_zero] at k
      exact lv_if_le hx hb hd ht (fun hz => by have k := k H locs rls hW hS hL; rw [if_pos hz] at k; exact k) (fun hz => by have k := k H locs rls hW hS hL; rw [if_neg hz] at k; exact k)
    · cases hs
  · cases hc
def s_icmp_le : PSem := fun i pc ls st h => match st with
  | .int y :: .int x :: rest => some (if x ≤ y then p_b i else pc + 3, ls, rest, h)
  | _ => none
def c_icmp_le : PChk := fun _ _ cc pc i => match decode cc pc with
  | .ok (.if_icmp .le off, 3) => decide ((pc : Int) + off = (p_b i : Int))
  | _ => false
theorem z_icmp_le : SoundP c_icmp_le s_icmp_le := by
  intro G p l e R s m args below meth c Q o ini cc nL i pc pls pst h r H locs cells slots rls F hc hs hW hS hL _ _ k
  obtain ⟨hx, hb, hml, hown, hts, -⟩ := F
  unfold c_icmp_le at hc
  split at hc
  next off hd =>
    have ht := of_decide_eq_true hc
    unfold s_icmp_le at hs
    split at hs
    next y x rest =>
      cases hs
      simp only [Nat.sub_self, Nat.add_zero] at k
      exact lv_icmp_le hx hb hd ht (fun hz => by have k := k H locs rls hW hS hL; rw [if_pos hz] at k; exact k) (fun hz => by have k := k H locs rls hW hS hL; rw [if_neg hz] at k; exact k)
    · cases hs
  · cases hc
def s_goto : PSem := fun i pc ls st h => some (p_b i, ls, st, h)
def c_goto : PChk := fun _ _ cc pc i => match decode cc pc with
  | .ok (.goto off, 3) => decide ((pc : Int) + off = (p_b i : Int))
  | _ => false
theorem z_goto : SoundP c_goto s_goto := by
  intro G p l e R s m args below meth c Q o ini cc nL i pc pls pst h r H locs cells slots rls F hc hs hW hS hL _ _ k
  obtain ⟨hx, hb, hml, hown, hts, -⟩ := F
  unfold c_goto at hc
  split at hc
  next off hd =>
    cases hs
    simp only [Nat.sub_self, Nat.add_zero] at k
    exact lv_goto hx hb hd (of_decide_eq_true hc) (k H locs rls hW hS hL)
  · cases hc
def s_nonnull : PSem := fun i pc ls st h => match st with
  | .ref x :: rest => some (p_b i, ls, rest, h)
  | .null :: rest => some (pc + 3, ls, rest, h)
  | _ => none
def c_nonnull : PChk := fun _ _ cc pc i => match decode cc pc with
  | .ok (.ifnonnull off, 3) => decide ((pc : Int) + off = (p_b i : Int))
  | _ => false
theorem z_nonnull : SoundP c_nonnull s_nonnull := by
  intro G p l e R s m args below meth c Q o ini cc nL i pc pls pst h r H locs cells slots rls F hc hs hW hS hL _ _ k
  obtain ⟨hx, hb, hml, hown, hts, -⟩ := F
  unfold c_nonnull at hc
  split at hc
  next off hd =>
    unfold s_nonnull at hs
    split at hs
    next x rest =>
      cases hs
      simp only [Nat.sub_self, Nat.add_zero] at k
      exact lv_ifnonnull hx hb hd (of_decide_eq_true hc) (k H locs rls hW hS hL)
    next rest =>
      cases hs
      simp only [Nat.sub_self, Nat.add_zero] at k
      exact lv_ifnonnullN hx hb hd (k H locs rls hW hS hL)
    · cases hs
  · cases hc
