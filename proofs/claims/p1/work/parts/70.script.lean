/-! a run of a method that is not the law's does not look at the script -/
def sets (h : PH) (s : Nat × (Nat → Int32)) : PH := (h_sh h, h_i h, h_l h, h_r h, h_ct h, h_sl h, s)
def scm (s : Nat × (Nat → Int32)) (r : PS) : PS := (r.1, r.2.1, r.2.2.1, sets r.2.2.2 s)
def ScO (f : PSem) : Prop := ∀ i pc ls st h s, f i pc ls st (sets h s) = (f i pc ls st h).map (scm s)
theorem sc_s_nop : ScO s_nop := by
  intro i pc ls st h s
  unfold s_nop
  (try rw [show h_sh (sets h s) = h_sh h from rfl])
  (try rw [show h_i (sets h s) = h_i h from rfl])
  (repeat' split) <;> first | rfl | simp_all [scm, sets, h_sh, h_i, h_l, h_r, h_ct, h_sl, Option.map]
theorem sc_s_iadd : ScO s_iadd := by
  intro i pc ls st h s
  unfold s_iadd
  (try rw [show h_sh (sets h s) = h_sh h from rfl])
  (try rw [show h_i (sets h s) = h_i h from rfl])
  (repeat' split) <;> first | rfl | simp_all [scm, sets, h_sh, h_i, h_l, h_r, h_ct, h_sl, Option.map]
theorem sc_s_isub : ScO s_isub := by
  intro i pc ls st h s
  unfold s_isub
  (try rw [show h_sh (sets h s) = h_sh h from rfl])
  (try rw [show h_i (sets h s) = h_i h from rfl])
  (repeat' split) <;> first | rfl | simp_all [scm, sets, h_sh, h_i, h_l, h_r, h_ct, h_sl, Option.map]
theorem sc_s_imul : ScO s_imul := by
  intro i pc ls st h s
  unfold s_imul
  (try rw [show h_sh (sets h s) = h_sh h from rfl])
  (try rw [show h_i (sets h s) = h_i h from rfl])
  (repeat' split) <;> first | rfl | simp_all [scm, sets, h_sh, h_i, h_l, h_r, h_ct, h_sl, Option.map]
theorem sc_s_iand : ScO s_iand := by
  intro i pc ls st h s
  unfold s_iand
  (try rw [show h_sh (sets h s) = h_sh h from rfl])
  (try rw [show h_i (sets h s) = h_i h from rfl])
  (repeat' split) <;> first | rfl | simp_all [scm, sets, h_sh, h_i, h_l, h_r, h_ct, h_sl, Option.map]
theorem sc_s_ior : ScO s_ior := by
  intro i pc ls st h s
  unfold s_ior
  (try rw [show h_sh (sets h s) = h_sh h from rfl])
  (try rw [show h_i (sets h s) = h_i h from rfl])
  (repeat' split) <;> first | rfl | simp_all [scm, sets, h_sh, h_i, h_l, h_r, h_ct, h_sl, Option.map]
theorem sc_s_ixor : ScO s_ixor := by
  intro i pc ls st h s
  unfold s_ixor
  (try rw [show h_sh (sets h s) = h_sh h from rfl])
  (try rw [show h_i (sets h s) = h_i h from rfl])
  (repeat' split) <;> first | rfl | simp_all [scm, sets, h_sh, h_i, h_l, h_r, h_ct, h_sl, Option.map]
theorem sc_s_ishl : ScO s_ishl := by
  intro i pc ls st h s
  unfold s_ishl
  (try rw [show h_sh (sets h s) = h_sh h from rfl])
  (try rw [show h_i (sets h s) = h_i h from rfl])
  (repeat' split) <;> first | rfl | simp_all [scm, sets, h_sh, h_i, h_l, h_r, h_ct, h_sl, Option.map]
theorem sc_s_ishr : ScO s_ishr := by
  intro i pc ls st h s
  unfold s_ishr
  (try rw [show h_sh (sets h s) = h_sh h from rfl])
  (try rw [show h_i (sets h s) = h_i h from rfl])
  (repeat' split) <;> first | rfl | simp_all [scm, sets, h_sh, h_i, h_l, h_r, h_ct, h_sl, Option.map]
theorem sc_s_iushr : ScO s_iushr := by
  intro i pc ls st h s
  unfold s_iushr
  (try rw [show h_sh (sets h s) = h_sh h from rfl])
  (try rw [show h_i (sets h s) = h_i h from rfl])
  (repeat' split) <;> first | rfl | simp_all [scm, sets, h_sh, h_i, h_l, h_r, h_ct, h_sl, Option.map]
theorem sc_s_idiv : ScO s_idiv := by
  intro i pc ls st h s
  unfold s_idiv
  (try rw [show h_sh (sets h s) = h_sh h from rfl])
  (try rw [show h_i (sets h s) = h_i h from rfl])
  (repeat' split) <;> first | rfl | simp_all [scm, sets, h_sh, h_i, h_l, h_r, h_ct, h_sl, Option.map]
theorem sc_s_irem : ScO s_irem := by
  intro i pc ls st h s
  unfold s_irem
  (try rw [show h_sh (sets h s) = h_sh h from rfl])
  (try rw [show h_i (sets h s) = h_i h from rfl])
  (repeat' split) <;> first | rfl | simp_all [scm, sets, h_sh, h_i, h_l, h_r, h_ct, h_sl, Option.map]
theorem sc_s_ladd : ScO s_ladd := by
  intro i pc ls st h s
  unfold s_ladd
  (try rw [show h_sh (sets h s) = h_sh h from rfl])
  (try rw [show h_i (sets h s) = h_i h from rfl])
  (repeat' split) <;> first | rfl | simp_all [scm, sets, h_sh, h_i, h_l, h_r, h_ct, h_sl, Option.map]
theorem sc_s_lsub : ScO s_lsub := by
  intro i pc ls st h s
  unfold s_lsub
  (try rw [show h_sh (sets h s) = h_sh h from rfl])
  (try rw [show h_i (sets h s) = h_i h from rfl])
  (repeat' split) <;> first | rfl | simp_all [scm, sets, h_sh, h_i, h_l, h_r, h_ct, h_sl, Option.map]
theorem sc_s_lmul : ScO s_lmul := by
  intro i pc ls st h s
  unfold s_lmul
  (try rw [show h_sh (sets h s) = h_sh h from rfl])
  (try rw [show h_i (sets h s) = h_i h from rfl])
  (repeat' split) <;> first | rfl | simp_all [scm, sets, h_sh, h_i, h_l, h_r, h_ct, h_sl, Option.map]
theorem sc_s_land : ScO s_land := by
  intro i pc ls st h s
  unfold s_land
  (try rw [show h_sh (sets h s) = h_sh h from rfl])
  (try rw [show h_i (sets h s) = h_i h from rfl])
  (repeat' split) <;> first | rfl | simp_all [scm, sets, h_sh, h_i, h_l, h_r, h_ct, h_sl, Option.map]
theorem sc_s_lor : ScO s_lor := by
  intro i pc ls st h s
  unfold s_lor
  (try rw [show h_sh (sets h s) = h_sh h from rfl])
  (try rw [show h_i (sets h s) = h_i h from rfl])
  (repeat' split) <;> first | rfl | simp_all [scm, sets, h_sh, h_i, h_l, h_r, h_ct, h_sl, Option.map]
theorem sc_s_lxor : ScO s_lxor := by
  intro i pc ls st h s
  unfold s_lxor
  (try rw [show h_sh (sets h s) = h_sh h from rfl])
  (try rw [show h_i (sets h s) = h_i h from rfl])
  (repeat' split) <;> first | rfl | simp_all [scm, sets, h_sh, h_i, h_l, h_r, h_ct, h_sl, Option.map]
theorem sc_s_ldiv : ScO s_ldiv := by
  intro i pc ls st h s
  unfold s_ldiv
  (try rw [show h_sh (sets h s) = h_sh h from rfl])
  (try rw [show h_i (sets h s) = h_i h from rfl])
  (repeat' split) <;> first | rfl | simp_all [scm, sets, h_sh, h_i, h_l, h_r, h_ct, h_sl, Option.map]
theorem sc_s_lrem : ScO s_lrem := by
  intro i pc ls st h s
  unfold s_lrem
  (try rw [show h_sh (sets h s) = h_sh h from rfl])
  (try rw [show h_i (sets h s) = h_i h from rfl])
  (repeat' split) <;> first | rfl | simp_all [scm, sets, h_sh, h_i, h_l, h_r, h_ct, h_sl, Option.map]
theorem sc_s_lshl : ScO s_lshl := by
  intro i pc ls st h s
  unfold s_lshl
  (try rw [show h_sh (sets h s) = h_sh h from rfl])
  (try rw [show h_i (sets h s) = h_i h from rfl])
  (repeat' split) <;> first | rfl | simp_all [scm, sets, h_sh, h_i, h_l, h_r, h_ct, h_sl, Option.map]
theorem sc_s_lushr : ScO s_lushr := by
  intro i pc ls st h s
  unfold s_lushr
  (try rw [show h_sh (sets h s) = h_sh h from rfl])
  (try rw [show h_i (sets h s) = h_i h from rfl])
  (repeat' split) <;> first | rfl | simp_all [scm, sets, h_sh, h_i, h_l, h_r, h_ct, h_sl, Option.map]
theorem sc_s_lcmp : ScO s_lcmp := by
  intro i pc ls st h s
  unfold s_lcmp
  (try rw [show h_sh (sets h s) = h_sh h from rfl])
  (try rw [show h_i (sets h s) = h_i h from rfl])
  (repeat' split) <;> first | rfl | simp_all [scm, sets, h_sh, h_i, h_l, h_r, h_ct, h_sl, Option.map]
theorem sc_s_ineg : ScO s_ineg := by
  intro i pc ls st h s
  unfold s_ineg
  (try rw [show h_sh (sets h s) = h_sh h from rfl])
  (try rw [show h_i (sets h s) = h_i h from rfl])
  (repeat' split) <;> first | rfl | simp_all [scm, sets, h_sh, h_i, h_l, h_r, h_ct, h_sl, Option.map]
theorem sc_s_i2l : ScO s_i2l := by
  intro i pc ls st h s
  unfold s_i2l
  (try rw [show h_sh (sets h s) = h_sh h from rfl])
  (try rw [show h_i (sets h s) = h_i h from rfl])
  (repeat' split) <;> first | rfl | simp_all [scm, sets, h_sh, h_i, h_l, h_r, h_ct, h_sl, Option.map]
theorem sc_s_l2i : ScO s_l2i := by
  intro i pc ls st h s
  unfold s_l2i
  (try rw [show h_sh (sets h s) = h_sh h from rfl])
  (try rw [show h_i (sets h s) = h_i h from rfl])
  (repeat' split) <;> first | rfl | simp_all [scm, sets, h_sh, h_i, h_l, h_r, h_ct, h_sl, Option.map]
theorem sc_s_i2b : ScO s_i2b := by
  intro i pc ls st h s
  unfold s_i2b
  (try rw [show h_sh (sets h s) = h_sh h from rfl])
  (try rw [show h_i (sets h s) = h_i h from rfl])
  (repeat' split) <;> first | rfl | simp_all [scm, sets, h_sh, h_i, h_l, h_r, h_ct, h_sl, Option.map]
theorem sc_s_dup : ScO s_dup := by
  intro i pc ls st h s
  unfold s_dup
  (try rw [show h_sh (sets h s) = h_sh h from rfl])
  (try rw [show h_i (sets h s) = h_i h from rfl])
  (repeat' split) <;> first | rfl | simp_all [scm, sets, h_sh, h_i, h_l, h_r, h_ct, h_sl, Option.map]
theorem sc_s_pop : ScO s_pop := by
  intro i pc ls st h s
  unfold s_pop
  (try rw [show h_sh (sets h s) = h_sh h from rfl])
  (try rw [show h_i (sets h s) = h_i h from rfl])
  (repeat' split) <;> first | rfl | simp_all [scm, sets, h_sh, h_i, h_l, h_r, h_ct, h_sl, Option.map]
theorem sc_s_pop2 : ScO s_pop2 := by
  intro i pc ls st h s
  unfold s_pop2
  (try rw [show h_sh (sets h s) = h_sh h from rfl])
  (try rw [show h_i (sets h s) = h_i h from rfl])
  (repeat' split) <;> first | rfl | simp_all [scm, sets, h_sh, h_i, h_l, h_r, h_ct, h_sl, Option.map]
theorem sc_s_dup22 : ScO s_dup22 := by
  intro i pc ls st h s
  unfold s_dup22
  (try rw [show h_sh (sets h s) = h_sh h from rfl])
  (try rw [show h_i (sets h s) = h_i h from rfl])
  (repeat' split) <;> first | rfl | simp_all [scm, sets, h_sh, h_i, h_l, h_r, h_ct, h_sl, Option.map]
theorem sc_s_dup211 : ScO s_dup211 := by
  intro i pc ls st h s
  unfold s_dup211
  (try rw [show h_sh (sets h s) = h_sh h from rfl])
  (try rw [show h_i (sets h s) = h_i h from rfl])
  (repeat' split) <;> first | rfl | simp_all [scm, sets, h_sh, h_i, h_l, h_r, h_ct, h_sl, Option.map]
theorem sc_s_ipush : ScO s_ipush := by
  intro i pc ls st h s
  unfold s_ipush
  (try rw [show h_sh (sets h s) = h_sh h from rfl])
  (try rw [show h_i (sets h s) = h_i h from rfl])
  (repeat' split) <;> first | rfl | simp_all [scm, sets, h_sh, h_i, h_l, h_r, h_ct, h_sl, Option.map]
theorem sc_s_lpush : ScO s_lpush := by
  intro i pc ls st h s
  unfold s_lpush
  (try rw [show h_sh (sets h s) = h_sh h from rfl])
  (try rw [show h_i (sets h s) = h_i h from rfl])
  (repeat' split) <;> first | rfl | simp_all [scm, sets, h_sh, h_i, h_l, h_r, h_ct, h_sl, Option.map]
theorem sc_s_ldc : ScO s_ldc := by
  intro i pc ls st h s
  unfold s_ldc
  (try rw [show h_sh (sets h s) = h_sh h from rfl])
  (try rw [show h_i (sets h s) = h_i h from rfl])
  (repeat' split) <;> first | rfl | simp_all [scm, sets, h_sh, h_i, h_l, h_r, h_ct, h_sl, Option.map]
theorem sc_s_ldc2 : ScO s_ldc2 := by
  intro i pc ls st h s
  unfold s_ldc2
  (try rw [show h_sh (sets h s) = h_sh h from rfl])
  (try rw [show h_i (sets h s) = h_i h from rfl])
  (repeat' split) <;> first | rfl | simp_all [scm, sets, h_sh, h_i, h_l, h_r, h_ct, h_sl, Option.map]
theorem sc_s_iload : ScO s_iload := by
  intro i pc ls st h s
  unfold s_iload
  (try rw [show h_sh (sets h s) = h_sh h from rfl])
  (try rw [show h_i (sets h s) = h_i h from rfl])
  (repeat' split) <;> first | rfl | simp_all [scm, sets, h_sh, h_i, h_l, h_r, h_ct, h_sl, Option.map]
theorem sc_s_aload : ScO s_aload := by
  intro i pc ls st h s
  unfold s_aload
  (try rw [show h_sh (sets h s) = h_sh h from rfl])
  (try rw [show h_i (sets h s) = h_i h from rfl])
  (repeat' split) <;> first | rfl | simp_all [scm, sets, h_sh, h_i, h_l, h_r, h_ct, h_sl, Option.map]
theorem sc_s_lload : ScO s_lload := by
  intro i pc ls st h s
  unfold s_lload
  (try rw [show h_sh (sets h s) = h_sh h from rfl])
  (try rw [show h_i (sets h s) = h_i h from rfl])
  (repeat' split) <;> first | rfl | simp_all [scm, sets, h_sh, h_i, h_l, h_r, h_ct, h_sl, Option.map]
theorem sc_s_aloadS : ScO s_aloadS := by
  intro i pc ls st h s
  unfold s_aloadS
  (try rw [show h_sh (sets h s) = h_sh h from rfl])
  (try rw [show h_i (sets h s) = h_i h from rfl])
  (repeat' split) <;> first | rfl | simp_all [scm, sets, h_sh, h_i, h_l, h_r, h_ct, h_sl, Option.map]
theorem sc_s_istore : ScO s_istore := by
  intro i pc ls st h s
  unfold s_istore
  (try rw [show h_sh (sets h s) = h_sh h from rfl])
  (try rw [show h_i (sets h s) = h_i h from rfl])
  (repeat' split) <;> first | rfl | simp_all [scm, sets, h_sh, h_i, h_l, h_r, h_ct, h_sl, Option.map]
theorem sc_s_astore : ScO s_astore := by
  intro i pc ls st h s
  unfold s_astore
  (try rw [show h_sh (sets h s) = h_sh h from rfl])
  (try rw [show h_i (sets h s) = h_i h from rfl])
  (repeat' split) <;> first | rfl | simp_all [scm, sets, h_sh, h_i, h_l, h_r, h_ct, h_sl, Option.map]
theorem sc_s_lstore : ScO s_lstore := by
  intro i pc ls st h s
  unfold s_lstore
  (try rw [show h_sh (sets h s) = h_sh h from rfl])
  (try rw [show h_i (sets h s) = h_i h from rfl])
  (repeat' split) <;> first | rfl | simp_all [scm, sets, h_sh, h_i, h_l, h_r, h_ct, h_sl, Option.map]
theorem sc_s_iinc : ScO s_iinc := by
  intro i pc ls st h s
  unfold s_iinc
  (try rw [show h_sh (sets h s) = h_sh h from rfl])
  (try rw [show h_i (sets h s) = h_i h from rfl])
  (repeat' split) <;> first | rfl | simp_all [scm, sets, h_sh, h_i, h_l, h_r, h_ct, h_sl, Option.map]
theorem sc_s_if_eq : ScO s_if_eq := by
  intro i pc ls st h s
  unfold s_if_eq
  (try rw [show h_sh (sets h s) = h_sh h from rfl])
  (try rw [show h_i (sets h s) = h_i h from rfl])
  (repeat' split) <;> first | rfl | simp_all [scm, sets, h_sh, h_i, h_l, h_r, h_ct, h_sl, Option.map]
theorem sc_s_icmp_eq : ScO s_icmp_eq := by
  intro i pc ls st h s
  unfold s_icmp_eq
  (try rw [show h_sh (sets h s) = h_sh h from rfl])
  (try rw [show h_i (sets h s) = h_i h from rfl])
  (repeat' split) <;> first | rfl | simp_all [scm, sets, h_sh, h_i, h_l, h_r, h_ct, h_sl, Option.map]
theorem sc_s_if_ne : ScO s_if_ne := by
  intro i pc ls st h s
  unfold s_if_ne
  (try rw [show h_sh (sets h s) = h_sh h from rfl])
  (try rw [show h_i (sets h s) = h_i h from rfl])
  (repeat' split) <;> first | rfl | simp_all [scm, sets, h_sh, h_i, h_l, h_r, h_ct, h_sl, Option.map]
theorem sc_s_icmp_ne : ScO s_icmp_ne := by
  intro i pc ls st h s
  unfold s_icmp_ne
  (try rw [show h_sh (sets h s) = h_sh h from rfl])
  (try rw [show h_i (sets h s) = h_i h from rfl])
  (repeat' split) <;> first | rfl | simp_all [scm, sets, h_sh, h_i, h_l, h_r, h_ct, h_sl, Option.map]
theorem sc_s_if_lt : ScO s_if_lt := by
  intro i pc ls st h s
  unfold s_if_lt
  (try rw [show h_sh (sets h s) = h_sh h from rfl])
  (try rw [show h_i (sets h s) = h_i h from rfl])
  (repeat' split) <;> first | rfl | simp_all [scm, sets, h_sh, h_i, h_l, h_r, h_ct, h_sl, Option.map]
theorem sc_s_icmp_lt : ScO s_icmp_lt := by
  intro i pc ls st h s
  unfold s_icmp_lt
  (try rw [show h_sh (sets h s) = h_sh h from rfl])
  (try rw [show h_i (sets h s) = h_i h from rfl])
  (repeat' split) <;> first | rfl | simp_all [scm, sets, h_sh, h_i, h_l, h_r, h_ct, h_sl, Option.map]
theorem sc_s_if_ge : ScO s_if_ge := by
  intro i pc ls st h s
  unfold s_if_ge
  (try rw [show h_sh (sets h s) = h_sh h from rfl])
  (try rw [show h_i (sets h s) = h_i h from rfl])
  (repeat' split) <;> first | rfl | simp_all [scm, sets, h_sh, h_i, h_l, h_r, h_ct, h_sl, Option.map]
theorem sc_s_icmp_ge : ScO s_icmp_ge := by
  intro i pc ls st h s
  unfold s_icmp_ge
  (try rw [show h_sh (sets h s) = h_sh h from rfl])
  (try rw [show h_i (sets h s) = h_i h from rfl])
  (repeat' split) <;> first | rfl | simp_all [scm, sets, h_sh, h_i, h_l, h_r, h_ct, h_sl, Option.map]
theorem sc_s_if_gt : ScO s_if_gt := by
  intro i pc ls st h s
  unfold s_if_gt
  (try rw [show h_sh (sets h s) = h_sh h from rfl])
  (try rw [show h_i (sets h s) = h_i h from rfl])
  (repeat' split) <;> first | rfl | simp_all [scm, sets, h_sh, h_i, h_l, h_r, h_ct, h_sl, Option.map]
theorem sc_s_icmp_gt : ScO s_icmp_gt := by
  intro i pc ls st h s
  unfold s_icmp_gt
  (try rw [show h_sh (sets h s) = h_sh h from rfl])
  (try rw [show h_i (sets h s) = h_i h from rfl])
  (repeat' split) <;> first | rfl | simp_all [scm, sets, h_sh, h_i, h_l, h_r, h_ct, h_sl, Option.map]
theorem sc_s_if_le : ScO s_if_le := by
  intro i pc ls st h s
  unfold s_if_le
  (try rw [show h_sh (sets h s) = h_sh h from rfl])
  (try rw [show h_i (sets h s) = h_i h from rfl])
  (repeat' split) <;> first | rfl | simp_all [scm, sets, h_sh, h_i, h_l, h_r, h_ct, h_sl, Option.map]
theorem sc_s_icmp_le : ScO s_icmp_le := by
  intro i pc ls st h s
  unfold s_icmp_le
  (try rw [show h_sh (sets h s) = h_sh h from rfl])
  (try rw [show h_i (sets h s) = h_i h from rfl])
  (repeat' split) <;> first | rfl | simp_all [scm, sets, h_sh, h_i, h_l, h_r, h_ct, h_sl, Option.map]
theorem sc_s_goto : ScO s_goto := by
  intro i pc ls st h s
  unfold s_goto
  (try rw [show h_sh (sets h s) = h_sh h from rfl])
  (try rw [show h_i (sets h s) = h_i h from rfl])
  (repeat' split) <;> first | rfl | simp_all [scm, sets, h_sh, h_i, h_l, h_r, h_ct, h_sl, Option.map]
theorem sc_s_nonnull : ScO s_nonnull := by
  intro i pc ls st h s
  unfold s_nonnull
  (try rw [show h_sh (sets h s) = h_sh h from rfl])
  (try rw [show h_i (sets h s) = h_i h from rfl])
  (repeat' split) <;> first | rfl | simp_all [scm, sets, h_sh, h_i, h_l, h_r, h_ct, h_sl, Option.map]
theorem sc_s_iaload : ScO s_iaload := by
  intro i pc ls st h s
  unfold s_iaload
  (try rw [show h_sh (sets h s) = h_sh h from rfl])
  (try rw [show h_i (sets h s) = h_i h from rfl])
  (repeat' split) <;> first | rfl | simp_all [scm, sets, h_sh, h_i, h_l, h_r, h_ct, h_sl, Option.map]
theorem sc_s_laload : ScO s_laload := by
  intro i pc ls st h s
  unfold s_laload
  (try rw [show h_sh (sets h s) = h_sh h from rfl])
  (try rw [show h_i (sets h s) = h_i h from rfl])
  (repeat' split) <;> first | rfl | simp_all [scm, sets, h_sh, h_i, h_l, h_r, h_ct, h_sl, Option.map]
theorem sc_s_baload : ScO s_baload := by
  intro i pc ls st h s
  unfold s_baload
  (try rw [show h_sh (sets h s) = h_sh h from rfl])
  (try rw [show h_i (sets h s) = h_i h from rfl])
  (repeat' split) <;> first | rfl | simp_all [scm, sets, h_sh, h_i, h_l, h_r, h_ct, h_sl, Option.map]
theorem sc_s_alen : ScO s_alen := by
  intro i pc ls st h s
  unfold s_alen
  (try rw [show h_sh (sets h s) = h_sh h from rfl])
  (try rw [show h_i (sets h s) = h_i h from rfl])
  (repeat' split) <;> first | rfl | simp_all [scm, sets, h_sh, h_i, h_l, h_r, h_ct, h_sl, Option.map]
theorem sc_s_iastore : ScO s_iastore := by
  intro i pc ls st h s
  unfold s_iastore
  (try rw [show h_sh (sets h s) = h_sh h from rfl])
  (try rw [show h_i (sets h s) = h_i h from rfl])
  (repeat' split) <;> first | rfl | simp_all [scm, sets, h_sh, h_i, h_l, h_r, h_ct, h_sl, Option.map]
theorem sc_s_lastore : ScO s_lastore := by
  intro i pc ls st h s
  unfold s_lastore
  (try rw [show h_sh (sets h s) = h_sh h from rfl])
  (try rw [show h_i (sets h s) = h_i h from rfl])
  (repeat' split) <;> first | rfl | simp_all [scm, sets, h_sh, h_i, h_l, h_r, h_ct, h_sl, Option.map]
theorem sc_s_bastore : ScO s_bastore := by
  intro i pc ls st h s
  unfold s_bastore
  (try rw [show h_sh (sets h s) = h_sh h from rfl])
  (try rw [show h_i (sets h s) = h_i h from rfl])
  (repeat' split) <;> first | rfl | simp_all [scm, sets, h_sh, h_i, h_l, h_r, h_ct, h_sl, Option.map]
theorem sc_s_getf : ScO s_getf := by
  intro i pc ls st h s
  unfold s_getf
  (try rw [show h_sh (sets h s) = h_sh h from rfl])
  (try rw [show h_i (sets h s) = h_i h from rfl])
  (repeat' split) <;> first | rfl | simp_all [scm, sets, h_sh, h_i, h_l, h_r, h_ct, h_sl, Option.map]
theorem sc_putv (h : PH) (c o e : Nat) (v : Value) (s : Nat × (Nat → Int32)) : putv (sets h s) c o e v = (putv h c o e v).map (fun h => sets h s) := by
  unfold putv
  repeat' split
  all_goals first | rfl | simp_all
theorem sc_s_putf : ScO s_putf := by
  intro i pc ls st h s
  unfold s_putf
  split
  · rw [show h_sh (sets h s) = h_sh h from rfl]
    split
    · rw [sc_putv]
      cases putv h (p_c i) _ (p_e i) _ <;> rfl
    · rfl
  · rfl
theorem sc_s_new : ScO s_new := by
  intro i pc ls st h s
  unfold s_new
  (try rw [show h_sh (sets h s) = h_sh h from rfl])
  (try rw [show h_i (sets h s) = h_i h from rfl])
  (repeat' split) <;> first | rfl | simp_all [scm, sets, h_sh, h_i, h_l, h_r, h_ct, h_sl, Option.map]
theorem sc_s_newI : ScO s_newI := by
  intro i pc ls st h s
  unfold s_newI
  (try rw [show h_sh (sets h s) = h_sh h from rfl])
  (try rw [show h_i (sets h s) = h_i h from rfl])
  (repeat' split) <;> first | rfl | simp_all [scm, sets, h_sh, h_i, h_l, h_r, h_ct, h_sl, Option.map]
theorem sc_s_newB : ScO s_newB := by
  intro i pc ls st h s
  unfold s_newB
  (try rw [show h_sh (sets h s) = h_sh h from rfl])
  (try rw [show h_i (sets h s) = h_i h from rfl])
  (repeat' split) <;> first | rfl | simp_all [scm, sets, h_sh, h_i, h_l, h_r, h_ct, h_sl, Option.map]
theorem sc_s_newZ : ScO s_newZ := by
  intro i pc ls st h s
  unfold s_newZ
  (try rw [show h_sh (sets h s) = h_sh h from rfl])
  (try rw [show h_i (sets h s) = h_i h from rfl])
  (repeat' split) <;> first | rfl | simp_all [scm, sets, h_sh, h_i, h_l, h_r, h_ct, h_sl, Option.map]
theorem sc_s_newL : ScO s_newL := by
  intro i pc ls st h s
  unfold s_newL
  (try rw [show h_sh (sets h s) = h_sh h from rfl])
  (try rw [show h_i (sets h s) = h_i h from rfl])
  (repeat' split) <;> first | rfl | simp_all [scm, sets, h_sh, h_i, h_l, h_r, h_ct, h_sl, Option.map]
theorem sc_s_switch : ScO s_switch := by
  intro i pc ls st h s
  unfold s_switch
  split
  · split
    · split
      · rfl
      · rw [Option.map_map]
        rfl
    · rfl
  · rfl
theorem sc_s_oinit : ScO s_oinit := by
  intro i pc ls st h s
  unfold s_oinit
  (try rw [show h_sh (sets h s) = h_sh h from rfl])
  (try rw [show h_i (sets h s) = h_i h from rfl])
  (repeat' split) <;> first | rfl | simp_all [scm, sets, h_sh, h_i, h_l, h_r, h_ct, h_sl, Option.map]
theorem sc_s_copyI : ScO s_copyI := by
  intro i pc ls st h s
  unfold s_copyI
  (try rw [show h_sh (sets h s) = h_sh h from rfl])
  (try rw [show h_i (sets h s) = h_i h from rfl])
  (repeat' split) <;> first | rfl | simp_all [scm, sets, h_sh, h_i, h_l, h_r, h_ct, h_sl, Option.map]
theorem sc_s_copyB : ScO s_copyB := by
  intro i pc ls st h s
  unfold s_copyB
  (try rw [show h_sh (sets h s) = h_sh h from rfl])
  (try rw [show h_i (sets h s) = h_i h from rfl])
  (repeat' split) <;> first | rfl | simp_all [scm, sets, h_sh, h_i, h_l, h_r, h_ct, h_sl, Option.map]
theorem sc_s_copyL : ScO s_copyL := by
  intro i pc ls st h s
  unfold s_copyL
  (try rw [show h_sh (sets h s) = h_sh h from rfl])
  (try rw [show h_i (sets h s) = h_i h from rfl])
  (repeat' split) <;> first | rfl | simp_all [scm, sets, h_sh, h_i, h_l, h_r, h_ct, h_sl, Option.map]
theorem sc_s_mmax : ScO s_mmax := by
  intro i pc ls st h s
  unfold s_mmax
  (try rw [show h_sh (sets h s) = h_sh h from rfl])
  (try rw [show h_i (sets h s) = h_i h from rfl])
  (repeat' split) <;> first | rfl | simp_all [scm, sets, h_sh, h_i, h_l, h_r, h_ct, h_sl, Option.map]
theorem sc_s_mmin : ScO s_mmin := by
  intro i pc ls st h s
  unfold s_mmin
  (try rw [show h_sh (sets h s) = h_sh h from rfl])
  (try rw [show h_i (sets h s) = h_i h from rfl])
  (repeat' split) <;> first | rfl | simp_all [scm, sets, h_sh, h_i, h_l, h_r, h_ct, h_sl, Option.map]
theorem HS_sc : ∀ (j : Nat) (q : PChk × PSem), HS[j]? = some q → j ≠ 75 → j ≠ 76 → ScO q.2 := by
  intro j q hq n1 n2
  match j, hq with
  | 0, hq => cases hq; exact sc_s_nop
  | 1, hq => cases hq; exact sc_s_iadd
  | 2, hq => cases hq; exact sc_s_isub
  | 3, hq => cases hq; exact sc_s_imul
  | 4, hq => cases hq; exact sc_s_iand
  | 5, hq => cases hq; exact sc_s_ior
  | 6, hq => cases hq; exact sc_s_ixor
  | 7, hq => cases hq; exact sc_s_ishl
  | 8, hq => cases hq; exact sc_s_ishr
  | 9, hq => cases hq; exact sc_s_iushr
  | 10, hq => cases hq; exact sc_s_idiv
  | 11, hq => cases hq; exact sc_s_irem
  | 12, hq => cases hq; exact sc_s_ladd
  | 13, hq => cases hq; exact sc_s_lsub
  | 14, hq => cases hq; exact sc_s_lmul
  | 15, hq => cases hq; exact sc_s_land
  | 16, hq => cases hq; exact sc_s_lor
  | 17, hq => cases hq; exact sc_s_lxor
  | 18, hq => cases hq; exact sc_s_ldiv
  | 19, hq => cases hq; exact sc_s_lrem
  | 20, hq => cases hq; exact sc_s_lshl
  | 21, hq => cases hq; exact sc_s_lushr
  | 22, hq => cases hq; exact sc_s_lcmp
  | 23, hq => cases hq; exact sc_s_ineg
  | 24, hq => cases hq; exact sc_s_i2l
  | 25, hq => cases hq; exact sc_s_l2i
  | 26, hq => cases hq; exact sc_s_i2b
  | 27, hq => cases hq; exact sc_s_dup
  | 28, hq => cases hq; exact sc_s_pop
  | 29, hq => cases hq; exact sc_s_pop2
  | 30, hq => cases hq; exact sc_s_dup22
  | 31, hq => cases hq; exact sc_s_dup211
  | 32, hq => cases hq; exact sc_s_ipush
  | 33, hq => cases hq; exact sc_s_lpush
  | 34, hq => cases hq; exact sc_s_ldc
  | 35, hq => cases hq; exact sc_s_ldc2
  | 36, hq => cases hq; exact sc_s_iload
  | 37, hq => cases hq; exact sc_s_aload
  | 38, hq => cases hq; exact sc_s_lload
  | 39, hq => cases hq; exact sc_s_aloadS
  | 40, hq => cases hq; exact sc_s_istore
  | 41, hq => cases hq; exact sc_s_astore
  | 42, hq => cases hq; exact sc_s_lstore
  | 43, hq => cases hq; exact sc_s_iinc
  | 44, hq => cases hq; exact sc_s_if_eq
  | 45, hq => cases hq; exact sc_s_icmp_eq
  | 46, hq => cases hq; exact sc_s_if_ne
  | 47, hq => cases hq; exact sc_s_icmp_ne
  | 48, hq => cases hq; exact sc_s_if_lt
  | 49, hq => cases hq; exact sc_s_icmp_lt
  | 50, hq => cases hq; exact sc_s_if_ge
  | 51, hq => cases hq; exact sc_s_icmp_ge
  | 52, hq => cases hq; exact sc_s_if_gt
  | 53, hq => cases hq; exact sc_s_icmp_gt
  | 54, hq => cases hq; exact sc_s_if_le
  | 55, hq => cases hq; exact sc_s_icmp_le
  | 56, hq => cases hq; exact sc_s_goto
  | 57, hq => cases hq; exact sc_s_nonnull
  | 58, hq => cases hq; exact sc_s_iaload
  | 59, hq => cases hq; exact sc_s_laload
  | 60, hq => cases hq; exact sc_s_baload
  | 61, hq => cases hq; exact sc_s_alen
  | 62, hq => cases hq; exact sc_s_iastore
  | 63, hq => cases hq; exact sc_s_lastore
  | 64, hq => cases hq; exact sc_s_bastore
  | 65, hq => cases hq; exact sc_s_getf
  | 66, hq => cases hq; exact sc_s_getf
  | 67, hq => cases hq; exact sc_s_putf
  | 68, hq => cases hq; exact sc_s_putf
  | 69, hq => cases hq; exact sc_s_putf
  | 70, hq => cases hq; exact sc_s_new
  | 71, hq => cases hq; exact sc_s_newI
  | 72, hq => cases hq; exact sc_s_newB
  | 73, hq => cases hq; exact sc_s_newZ
  | 74, hq => cases hq; exact sc_s_newL
  | 75, hq => exact absurd rfl n1
  | 76, hq => exact absurd rfl n2
  | 77, hq => cases hq; exact sc_s_switch
  | 78, hq => cases hq; exact sc_s_oinit
  | 79, hq => cases hq; exact sc_s_copyI
  | 80, hq => cases hq; exact sc_s_copyB
  | 81, hq => cases hq; exact sc_s_copyL
  | 82, hq => cases hq; exact sc_s_mmax
  | 83, hq => cases hq; exact sc_s_mmin
  | j + 84, hq => simp [HS, HS1] at hq
def noS (M : PM) : Bool := (m_code M).all (fun i => i.1 != 75 && i.1 != 76)
theorem ex_sc (call : PCall) (hc : ∀ id a h s r, call id a h = some r → call id a (sets h s) = some (r.1, sets r.2 s)) (M : PM) (hM : noS M = true) : ∀ (n pc : Nat) (ls st : List Value) (h : PH) (s : Nat × (Nat → Int32)) (r : Option Value × PH), px_exec mOf call M n pc ls st h = some r → px_exec mOf call M n pc ls st (sets h s) = some (r.1, sets r.2 s) := by
  intro n
  induction n with
  | zero => intro pc ls st h s r he; cases he
  | succ n ih =>
    intro pc ls st h s r he
    unfold px_exec at he ⊢
    cases hi : (m_code M)[pc]? with
    | none => rw [hi] at he; cases he
    | some i =>
      rw [hi] at he
      dsimp only at he ⊢
      have hn := List.all_eq_true.mp hM i (List.mem_of_getElem? hi)
      by_cases hlt : i.1 < 100
      · rw [if_pos hlt] at he ⊢
        cases hq : HS[i.1]? with
        | none => rw [hq] at he; cases he
        | some q =>
          rw [hq] at he
          dsimp only at he ⊢
          simp only [Bool.and_eq_true, bne_iff_ne, ne_eq] at hn
          rw [HS_sc i.1 q hq hn.1 hn.2 i pc ls st h s]
          cases hr : q.2 i pc ls st h with
          | none => rw [hr] at he; cases he
          | some r1 =>
            rw [hr] at he
            dsimp only [Option.map_some] at he ⊢
            by_cases hle : h_leB h r1.2.2.2 = true
            · rw [if_pos hle] at he
              rw [if_pos (show h_leB (sets h s) (scm s r1).2.2.2 = true from hle)]
              exact ih _ _ _ _ _ _ he
            · rw [if_neg hle] at he; cases he
      · rw [if_neg hlt] at he ⊢
        by_cases h110 : i.1 = 110
        · rw [if_pos h110] at he ⊢
          by_cases hcond : p_c i ≤ st.length ∧ (st.drop (p_c i)).length ≤ 4 ∧ recvOK (m_kd (mOf (p_b i))) (m_o (mOf (p_b i))) h (st.take (p_c i)).reverse = true
          · rw [if_pos hcond] at he
            rw [if_pos (show p_c i ≤ st.length ∧ (st.drop (p_c i)).length ≤ 4 ∧ recvOK (m_kd (mOf (p_b i))) (m_o (mOf (p_b i))) (sets h s) (st.take (p_c i)).reverse = true from hcond)]
            cases hr : call (p_b i) (st.take (p_c i)).reverse h with
            | none => rw [hr] at he; cases he
            | some r1 =>
              rw [hr] at he
              rw [hc _ _ _ s _ hr]
              dsimp only at he ⊢
              by_cases hle : h_leB h r1.2 = true
              · rw [if_pos hle] at he
                rw [if_pos (show h_leB (sets h s) (sets r1.2 s) = true from hle)]
                exact ih _ _ _ _ _ _ he
              · rw [if_neg hle] at he; cases he
          · rw [if_neg hcond] at he; cases he
        · rw [if_neg h110] at he ⊢
          unfold px_ret at he ⊢
          split at he
          · split at he
            · split at he
              · next hx => cases he; dsimp only; simp_all
              · cases he
            · cases he
          · cases he; rfl
          · cases he; rfl
          · cases he; rfl
          · cases he
set_option maxRecDepth 100000 in
theorem mTs_noS : (mTs.all (fun L => L.all (fun M => m_o M == 13 || noS M))) = true := by decide +kernel
theorem mOf_noS (id : Nat) : m_o (mOf id) = 13 ∨ noS (mOf id) = true := by
  unfold mOf
  have key : ∀ M ∈ mTs.getD (id / 32) [], m_o M = 13 ∨ noS M = true := by
    intro M hM
    have h1 : mTs.getD (id / 32) [] ∈ mTs ∨ mTs.getD (id / 32) [] = [] := by
      rw [List.getD_eq_getElem?_getD]
      cases h : mTs[id / 32]? with
      | none => right; rfl
      | some L => left; exact List.mem_of_getElem? h
    rcases h1 with h1 | h1
    · have h2 := List.all_eq_true.mp (List.all_eq_true.mp mTs_noS _ h1) M hM
      simp only [Bool.or_eq_true, beq_iff_eq] at h2
      exact h2
    · rw [h1] at hM; cases hM
  rw [List.getD_eq_getElem?_getD]
  cases h : (mTs.getD (id / 32) [])[id % 32]? with
  | none => right; rfl
  | some M => exact key M (List.mem_of_getElem? h)
theorem run_sc (n : Nat) : ∀ (d id : Nat) (a : List Value) (h : PH) (s : Nat × (Nat → Int32)) (r : Option Value × PH), px_run mOf d n id a h = some r → px_run mOf d n id a (sets h s) = some (r.1, sets r.2 s) := by
  intro d
  induction d with
  | zero => intro id a h s r he; cases he
  | succ d ih =>
    intro id a h s r he
    unfold px_run at he ⊢
    split at he
    · cases he
    next hc =>
      rw [if_neg hc]
      refine ex_sc _ ih (mOf id) ((mOf_noS id).resolve_left (fun q => hc (Or.inl q))) _ _ _ _ _ _ _ he
