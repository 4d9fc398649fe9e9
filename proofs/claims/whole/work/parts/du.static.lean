/-! which calls may set which of the object's references: told by the code alone -/
def NR (s : PSem) : Prop := ∀ i pc ls st h r, s i pc ls st h = some r → 0 < h_ct h → h_sh r.2.2.2 0 = h_sh h 0 ∧ 0 < h_ct r.2.2.2 ∧ h_r r.2.2.2 0 = h_r h 0
theorem nr_new {h : PH} {q : Nat × Nat} {n : Nat} (c : 0 < h_ct h) : h_sh (h_new h q n) 0 = h_sh h 0 ∧ 0 < h_ct (h_new h q n) ∧ h_r (h_new h q n) 0 = h_r h 0 := ⟨if_neg (by omega), Nat.lt_succ_of_lt c, upr_ne _ _ (by omega)⟩
theorem n_alen : NR s_alen := fun i pc ls st h r e c => by
  unfold s_alen at e
  repeat' (split at e)
  all_goals first
    | (cases e; exact ⟨rfl, c, rfl⟩)
    | (obtain ⟨_, _, e2⟩ := Option.map_eq_some_iff.mp e; cases e2; exact ⟨rfl, c, rfl⟩)
    | cases e
theorem n_aload : NR s_aload := fun i pc ls st h r e c => by
  unfold s_aload at e
  repeat' (split at e)
  all_goals first
    | (cases e; exact ⟨rfl, c, rfl⟩)
    | (obtain ⟨_, _, e2⟩ := Option.map_eq_some_iff.mp e; cases e2; exact ⟨rfl, c, rfl⟩)
    | cases e
theorem n_aloadS : NR s_aloadS := fun i pc ls st h r e c => by
  unfold s_aloadS at e
  repeat' (split at e)
  all_goals first
    | (cases e; exact ⟨rfl, c, rfl⟩)
    | (obtain ⟨_, _, e2⟩ := Option.map_eq_some_iff.mp e; cases e2; exact ⟨rfl, c, rfl⟩)
    | cases e
theorem n_astore : NR s_astore := fun i pc ls st h r e c => by
  unfold s_astore at e
  repeat' (split at e)
  all_goals first
    | (cases e; exact ⟨rfl, c, rfl⟩)
    | (obtain ⟨_, _, e2⟩ := Option.map_eq_some_iff.mp e; cases e2; exact ⟨rfl, c, rfl⟩)
    | cases e
theorem n_baload : NR s_baload := fun i pc ls st h r e c => by
  unfold s_baload at e
  repeat' (split at e)
  all_goals first
    | (cases e; exact ⟨rfl, c, rfl⟩)
    | (obtain ⟨_, _, e2⟩ := Option.map_eq_some_iff.mp e; cases e2; exact ⟨rfl, c, rfl⟩)
    | cases e
theorem n_bastore : NR s_bastore := fun i pc ls st h r e c => by
  unfold s_bastore at e
  repeat' (split at e)
  all_goals first
    | (cases e; exact ⟨rfl, c, rfl⟩)
    | (obtain ⟨_, _, e2⟩ := Option.map_eq_some_iff.mp e; cases e2; exact ⟨rfl, c, rfl⟩)
    | cases e
theorem n_copyB : NR s_copyB := fun i pc ls st h r e c => by
  unfold s_copyB at e
  repeat' (split at e)
  all_goals first
    | (cases e; exact ⟨rfl, c, rfl⟩)
    | (obtain ⟨_, _, e2⟩ := Option.map_eq_some_iff.mp e; cases e2; exact ⟨rfl, c, rfl⟩)
    | cases e
theorem n_copyI : NR s_copyI := fun i pc ls st h r e c => by
  unfold s_copyI at e
  repeat' (split at e)
  all_goals first
    | (cases e; exact ⟨rfl, c, rfl⟩)
    | (obtain ⟨_, _, e2⟩ := Option.map_eq_some_iff.mp e; cases e2; exact ⟨rfl, c, rfl⟩)
    | cases e
theorem n_copyL : NR s_copyL := fun i pc ls st h r e c => by
  unfold s_copyL at e
  repeat' (split at e)
  all_goals first
    | (cases e; exact ⟨rfl, c, rfl⟩)
    | (obtain ⟨_, _, e2⟩ := Option.map_eq_some_iff.mp e; cases e2; exact ⟨rfl, c, rfl⟩)
    | cases e
theorem n_dup : NR s_dup := fun i pc ls st h r e c => by
  unfold s_dup at e
  repeat' (split at e)
  all_goals first
    | (cases e; exact ⟨rfl, c, rfl⟩)
    | (obtain ⟨_, _, e2⟩ := Option.map_eq_some_iff.mp e; cases e2; exact ⟨rfl, c, rfl⟩)
    | cases e
theorem n_dup211 : NR s_dup211 := fun i pc ls st h r e c => by
  unfold s_dup211 at e
  repeat' (split at e)
  all_goals first
    | (cases e; exact ⟨rfl, c, rfl⟩)
    | (obtain ⟨_, _, e2⟩ := Option.map_eq_some_iff.mp e; cases e2; exact ⟨rfl, c, rfl⟩)
    | cases e
theorem n_dup22 : NR s_dup22 := fun i pc ls st h r e c => by
  unfold s_dup22 at e
  repeat' (split at e)
  all_goals first
    | (cases e; exact ⟨rfl, c, rfl⟩)
    | (obtain ⟨_, _, e2⟩ := Option.map_eq_some_iff.mp e; cases e2; exact ⟨rfl, c, rfl⟩)
    | cases e
theorem n_getf : NR s_getf := fun i pc ls st h r e c => by
  unfold s_getf at e
  repeat' (split at e)
  all_goals first
    | (cases e; exact ⟨rfl, c, rfl⟩)
    | (obtain ⟨_, _, e2⟩ := Option.map_eq_some_iff.mp e; cases e2; exact ⟨rfl, c, rfl⟩)
    | cases e
theorem n_goto : NR s_goto := fun i pc ls st h r e c => by
  unfold s_goto at e
  repeat' (split at e)
  all_goals first
    | (cases e; exact ⟨rfl, c, rfl⟩)
    | (obtain ⟨_, _, e2⟩ := Option.map_eq_some_iff.mp e; cases e2; exact ⟨rfl, c, rfl⟩)
    | cases e
theorem n_i2b : NR s_i2b := fun i pc ls st h r e c => by
  unfold s_i2b at e
  repeat' (split at e)
  all_goals first
    | (cases e; exact ⟨rfl, c, rfl⟩)
    | (obtain ⟨_, _, e2⟩ := Option.map_eq_some_iff.mp e; cases e2; exact ⟨rfl, c, rfl⟩)
    | cases e
theorem n_i2l : NR s_i2l := fun i pc ls st h r e c => by
  unfold s_i2l at e
  repeat' (split at e)
  all_goals first
    | (cases e; exact ⟨rfl, c, rfl⟩)
    | (obtain ⟨_, _, e2⟩ := Option.map_eq_some_iff.mp e; cases e2; exact ⟨rfl, c, rfl⟩)
    | cases e
theorem n_iadd : NR s_iadd := fun i pc ls st h r e c => by
  unfold s_iadd at e
  repeat' (split at e)
  all_goals first
    | (cases e; exact ⟨rfl, c, rfl⟩)
    | (obtain ⟨_, _, e2⟩ := Option.map_eq_some_iff.mp e; cases e2; exact ⟨rfl, c, rfl⟩)
    | cases e
theorem n_iaload : NR s_iaload := fun i pc ls st h r e c => by
  unfold s_iaload at e
  repeat' (split at e)
  all_goals first
    | (cases e; exact ⟨rfl, c, rfl⟩)
    | (obtain ⟨_, _, e2⟩ := Option.map_eq_some_iff.mp e; cases e2; exact ⟨rfl, c, rfl⟩)
    | cases e
theorem n_iand : NR s_iand := fun i pc ls st h r e c => by
  unfold s_iand at e
  repeat' (split at e)
  all_goals first
    | (cases e; exact ⟨rfl, c, rfl⟩)
    | (obtain ⟨_, _, e2⟩ := Option.map_eq_some_iff.mp e; cases e2; exact ⟨rfl, c, rfl⟩)
    | cases e
theorem n_iastore : NR s_iastore := fun i pc ls st h r e c => by
  unfold s_iastore at e
  repeat' (split at e)
  all_goals first
    | (cases e; exact ⟨rfl, c, rfl⟩)
    | (obtain ⟨_, _, e2⟩ := Option.map_eq_some_iff.mp e; cases e2; exact ⟨rfl, c, rfl⟩)
    | cases e
theorem n_icmp_eq : NR s_icmp_eq := fun i pc ls st h r e c => by
  unfold s_icmp_eq at e
  repeat' (split at e)
  all_goals first
    | (cases e; exact ⟨rfl, c, rfl⟩)
    | (obtain ⟨_, _, e2⟩ := Option.map_eq_some_iff.mp e; cases e2; exact ⟨rfl, c, rfl⟩)
    | cases e
theorem n_icmp_ge : NR s_icmp_ge := fun i pc ls st h r e c => by
  unfold s_icmp_ge at e
  repeat' (split at e)
  all_goals first
    | (cases e; exact ⟨rfl, c, rfl⟩)
    | (obtain ⟨_, _, e2⟩ := Option.map_eq_some_iff.mp e; cases e2; exact ⟨rfl, c, rfl⟩)
    | cases e
theorem n_icmp_gt : NR s_icmp_gt := fun i pc ls st h r e c => by
  unfold s_icmp_gt at e
  repeat' (split at e)
  all_goals first
    | (cases e; exact ⟨rfl, c, rfl⟩)
    | (obtain ⟨_, _, e2⟩ := Option.map_eq_some_iff.mp e; cases e2; exact ⟨rfl, c, rfl⟩)
    | cases e
theorem n_icmp_le : NR s_icmp_le := fun i pc ls st h r e c => by
  unfold s_icmp_le at e
  repeat' (split at e)
  all_goals first
    | (cases e; exact ⟨rfl, c, rfl⟩)
    | (obtain ⟨_, _, e2⟩ := Option.map_eq_some_iff.mp e; cases e2; exact ⟨rfl, c, rfl⟩)
    | cases e
theorem n_icmp_lt : NR s_icmp_lt := fun i pc ls st h r e c => by
  unfold s_icmp_lt at e
  repeat' (split at e)
  all_goals first
    | (cases e; exact ⟨rfl, c, rfl⟩)
    | (obtain ⟨_, _, e2⟩ := Option.map_eq_some_iff.mp e; cases e2; exact ⟨rfl, c, rfl⟩)
    | cases e
theorem n_icmp_ne : NR s_icmp_ne := fun i pc ls st h r e c => by
  unfold s_icmp_ne at e
  repeat' (split at e)
  all_goals first
    | (cases e; exact ⟨rfl, c, rfl⟩)
    | (obtain ⟨_, _, e2⟩ := Option.map_eq_some_iff.mp e; cases e2; exact ⟨rfl, c, rfl⟩)
    | cases e
theorem n_idiv : NR s_idiv := fun i pc ls st h r e c => by
  unfold s_idiv at e
  repeat' (split at e)
  all_goals first
    | (cases e; exact ⟨rfl, c, rfl⟩)
    | (obtain ⟨_, _, e2⟩ := Option.map_eq_some_iff.mp e; cases e2; exact ⟨rfl, c, rfl⟩)
    | cases e
theorem n_if_eq : NR s_if_eq := fun i pc ls st h r e c => by
  unfold s_if_eq at e
  repeat' (split at e)
  all_goals first
    | (cases e; exact ⟨rfl, c, rfl⟩)
    | (obtain ⟨_, _, e2⟩ := Option.map_eq_some_iff.mp e; cases e2; exact ⟨rfl, c, rfl⟩)
    | cases e
theorem n_if_ge : NR s_if_ge := fun i pc ls st h r e c => by
  unfold s_if_ge at e
  repeat' (split at e)
  all_goals first
    | (cases e; exact ⟨rfl, c, rfl⟩)
    | (obtain ⟨_, _, e2⟩ := Option.map_eq_some_iff.mp e; cases e2; exact ⟨rfl, c, rfl⟩)
    | cases e
theorem n_if_gt : NR s_if_gt := fun i pc ls st h r e c => by
  unfold s_if_gt at e
  repeat' (split at e)
  all_goals first
    | (cases e; exact ⟨rfl, c, rfl⟩)
    | (obtain ⟨_, _, e2⟩ := Option.map_eq_some_iff.mp e; cases e2; exact ⟨rfl, c, rfl⟩)
    | cases e
theorem n_if_le : NR s_if_le := fun i pc ls st h r e c => by
  unfold s_if_le at e
  repeat' (split at e)
  all_goals first
    | (cases e; exact ⟨rfl, c, rfl⟩)
    | (obtain ⟨_, _, e2⟩ := Option.map_eq_some_iff.mp e; cases e2; exact ⟨rfl, c, rfl⟩)
    | cases e
theorem n_if_lt : NR s_if_lt := fun i pc ls st h r e c => by
  unfold s_if_lt at e
  repeat' (split at e)
  all_goals first
    | (cases e; exact ⟨rfl, c, rfl⟩)
    | (obtain ⟨_, _, e2⟩ := Option.map_eq_some_iff.mp e; cases e2; exact ⟨rfl, c, rfl⟩)
    | cases e
theorem n_if_ne : NR s_if_ne := fun i pc ls st h r e c => by
  unfold s_if_ne at e
  repeat' (split at e)
  all_goals first
    | (cases e; exact ⟨rfl, c, rfl⟩)
    | (obtain ⟨_, _, e2⟩ := Option.map_eq_some_iff.mp e; cases e2; exact ⟨rfl, c, rfl⟩)
    | cases e
theorem n_iinc : NR s_iinc := fun i pc ls st h r e c => by
  unfold s_iinc at e
  repeat' (split at e)
  all_goals first
    | (cases e; exact ⟨rfl, c, rfl⟩)
    | (obtain ⟨_, _, e2⟩ := Option.map_eq_some_iff.mp e; cases e2; exact ⟨rfl, c, rfl⟩)
    | cases e
theorem n_iload : NR s_iload := fun i pc ls st h r e c => by
  unfold s_iload at e
  repeat' (split at e)
  all_goals first
    | (cases e; exact ⟨rfl, c, rfl⟩)
    | (obtain ⟨_, _, e2⟩ := Option.map_eq_some_iff.mp e; cases e2; exact ⟨rfl, c, rfl⟩)
    | cases e
theorem n_imul : NR s_imul := fun i pc ls st h r e c => by
  unfold s_imul at e
  repeat' (split at e)
  all_goals first
    | (cases e; exact ⟨rfl, c, rfl⟩)
    | (obtain ⟨_, _, e2⟩ := Option.map_eq_some_iff.mp e; cases e2; exact ⟨rfl, c, rfl⟩)
    | cases e
theorem n_ineg : NR s_ineg := fun i pc ls st h r e c => by
  unfold s_ineg at e
  repeat' (split at e)
  all_goals first
    | (cases e; exact ⟨rfl, c, rfl⟩)
    | (obtain ⟨_, _, e2⟩ := Option.map_eq_some_iff.mp e; cases e2; exact ⟨rfl, c, rfl⟩)
    | cases e
theorem n_ior : NR s_ior := fun i pc ls st h r e c => by
  unfold s_ior at e
  repeat' (split at e)
  all_goals first
    | (cases e; exact ⟨rfl, c, rfl⟩)
    | (obtain ⟨_, _, e2⟩ := Option.map_eq_some_iff.mp e; cases e2; exact ⟨rfl, c, rfl⟩)
    | cases e
theorem n_ipush : NR s_ipush := fun i pc ls st h r e c => by
  unfold s_ipush at e
  repeat' (split at e)
  all_goals first
    | (cases e; exact ⟨rfl, c, rfl⟩)
    | (obtain ⟨_, _, e2⟩ := Option.map_eq_some_iff.mp e; cases e2; exact ⟨rfl, c, rfl⟩)
    | cases e
theorem n_irem : NR s_irem := fun i pc ls st h r e c => by
  unfold s_irem at e
  repeat' (split at e)
  all_goals first
    | (cases e; exact ⟨rfl, c, rfl⟩)
    | (obtain ⟨_, _, e2⟩ := Option.map_eq_some_iff.mp e; cases e2; exact ⟨rfl, c, rfl⟩)
    | cases e
theorem n_ishl : NR s_ishl := fun i pc ls st h r e c => by
  unfold s_ishl at e
  repeat' (split at e)
  all_goals first
    | (cases e; exact ⟨rfl, c, rfl⟩)
    | (obtain ⟨_, _, e2⟩ := Option.map_eq_some_iff.mp e; cases e2; exact ⟨rfl, c, rfl⟩)
    | cases e
theorem n_ishr : NR s_ishr := fun i pc ls st h r e c => by
  unfold s_ishr at e
  repeat' (split at e)
  all_goals first
    | (cases e; exact ⟨rfl, c, rfl⟩)
    | (obtain ⟨_, _, e2⟩ := Option.map_eq_some_iff.mp e; cases e2; exact ⟨rfl, c, rfl⟩)
    | cases e
theorem n_istore : NR s_istore := fun i pc ls st h r e c => by
  unfold s_istore at e
  repeat' (split at e)
  all_goals first
    | (cases e; exact ⟨rfl, c, rfl⟩)
    | (obtain ⟨_, _, e2⟩ := Option.map_eq_some_iff.mp e; cases e2; exact ⟨rfl, c, rfl⟩)
    | cases e
theorem n_isub : NR s_isub := fun i pc ls st h r e c => by
  unfold s_isub at e
  repeat' (split at e)
  all_goals first
    | (cases e; exact ⟨rfl, c, rfl⟩)
    | (obtain ⟨_, _, e2⟩ := Option.map_eq_some_iff.mp e; cases e2; exact ⟨rfl, c, rfl⟩)
    | cases e
theorem n_iushr : NR s_iushr := fun i pc ls st h r e c => by
  unfold s_iushr at e
  repeat' (split at e)
  all_goals first
    | (cases e; exact ⟨rfl, c, rfl⟩)
    | (obtain ⟨_, _, e2⟩ := Option.map_eq_some_iff.mp e; cases e2; exact ⟨rfl, c, rfl⟩)
    | cases e
theorem n_ixor : NR s_ixor := fun i pc ls st h r e c => by
  unfold s_ixor at e
  repeat' (split at e)
  all_goals first
    | (cases e; exact ⟨rfl, c, rfl⟩)
    | (obtain ⟨_, _, e2⟩ := Option.map_eq_some_iff.mp e; cases e2; exact ⟨rfl, c, rfl⟩)
    | cases e
theorem n_l2i : NR s_l2i := fun i pc ls st h r e c => by
  unfold s_l2i at e
  repeat' (split at e)
  all_goals first
    | (cases e; exact ⟨rfl, c, rfl⟩)
    | (obtain ⟨_, _, e2⟩ := Option.map_eq_some_iff.mp e; cases e2; exact ⟨rfl, c, rfl⟩)
    | cases e
theorem n_ladd : NR s_ladd := fun i pc ls st h r e c => by
  unfold s_ladd at e
  repeat' (split at e)
  all_goals first
    | (cases e; exact ⟨rfl, c, rfl⟩)
    | (obtain ⟨_, _, e2⟩ := Option.map_eq_some_iff.mp e; cases e2; exact ⟨rfl, c, rfl⟩)
    | cases e
theorem n_laload : NR s_laload := fun i pc ls st h r e c => by
  unfold s_laload at e
  repeat' (split at e)
  all_goals first
    | (cases e; exact ⟨rfl, c, rfl⟩)
    | (obtain ⟨_, _, e2⟩ := Option.map_eq_some_iff.mp e; cases e2; exact ⟨rfl, c, rfl⟩)
    | cases e
theorem n_land : NR s_land := fun i pc ls st h r e c => by
  unfold s_land at e
  repeat' (split at e)
  all_goals first
    | (cases e; exact ⟨rfl, c, rfl⟩)
    | (obtain ⟨_, _, e2⟩ := Option.map_eq_some_iff.mp e; cases e2; exact ⟨rfl, c, rfl⟩)
    | cases e
theorem n_lastore : NR s_lastore := fun i pc ls st h r e c => by
  unfold s_lastore at e
  repeat' (split at e)
  all_goals first
    | (cases e; exact ⟨rfl, c, rfl⟩)
    | (obtain ⟨_, _, e2⟩ := Option.map_eq_some_iff.mp e; cases e2; exact ⟨rfl, c, rfl⟩)
    | cases e
theorem n_lcmp : NR s_lcmp := fun i pc ls st h r e c => by
  unfold s_lcmp at e
  repeat' (split at e)
  all_goals first
    | (cases e; exact ⟨rfl, c, rfl⟩)
    | (obtain ⟨_, _, e2⟩ := Option.map_eq_some_iff.mp e; cases e2; exact ⟨rfl, c, rfl⟩)
    | cases e
theorem n_ldc : NR s_ldc := fun i pc ls st h r e c => by
  unfold s_ldc at e
  repeat' (split at e)
  all_goals first
    | (cases e; exact ⟨rfl, c, rfl⟩)
    | (obtain ⟨_, _, e2⟩ := Option.map_eq_some_iff.mp e; cases e2; exact ⟨rfl, c, rfl⟩)
    | cases e
theorem n_ldc2 : NR s_ldc2 := fun i pc ls st h r e c => by
  unfold s_ldc2 at e
  repeat' (split at e)
  all_goals first
    | (cases e; exact ⟨rfl, c, rfl⟩)
    | (obtain ⟨_, _, e2⟩ := Option.map_eq_some_iff.mp e; cases e2; exact ⟨rfl, c, rfl⟩)
    | cases e
theorem n_ldiv : NR s_ldiv := fun i pc ls st h r e c => by
  unfold s_ldiv at e
  repeat' (split at e)
  all_goals first
    | (cases e; exact ⟨rfl, c, rfl⟩)
    | (obtain ⟨_, _, e2⟩ := Option.map_eq_some_iff.mp e; cases e2; exact ⟨rfl, c, rfl⟩)
    | cases e
theorem n_lload : NR s_lload := fun i pc ls st h r e c => by
  unfold s_lload at e
  repeat' (split at e)
  all_goals first
    | (cases e; exact ⟨rfl, c, rfl⟩)
    | (obtain ⟨_, _, e2⟩ := Option.map_eq_some_iff.mp e; cases e2; exact ⟨rfl, c, rfl⟩)
    | cases e
theorem n_lmul : NR s_lmul := fun i pc ls st h r e c => by
  unfold s_lmul at e
  repeat' (split at e)
  all_goals first
    | (cases e; exact ⟨rfl, c, rfl⟩)
    | (obtain ⟨_, _, e2⟩ := Option.map_eq_some_iff.mp e; cases e2; exact ⟨rfl, c, rfl⟩)
    | cases e
theorem n_lor : NR s_lor := fun i pc ls st h r e c => by
  unfold s_lor at e
  repeat' (split at e)
  all_goals first
    | (cases e; exact ⟨rfl, c, rfl⟩)
    | (obtain ⟨_, _, e2⟩ := Option.map_eq_some_iff.mp e; cases e2; exact ⟨rfl, c, rfl⟩)
    | cases e
theorem n_lpush : NR s_lpush := fun i pc ls st h r e c => by
  unfold s_lpush at e
  repeat' (split at e)
  all_goals first
    | (cases e; exact ⟨rfl, c, rfl⟩)
    | (obtain ⟨_, _, e2⟩ := Option.map_eq_some_iff.mp e; cases e2; exact ⟨rfl, c, rfl⟩)
    | cases e
theorem n_lrem : NR s_lrem := fun i pc ls st h r e c => by
  unfold s_lrem at e
  repeat' (split at e)
  all_goals first
    | (cases e; exact ⟨rfl, c, rfl⟩)
    | (obtain ⟨_, _, e2⟩ := Option.map_eq_some_iff.mp e; cases e2; exact ⟨rfl, c, rfl⟩)
    | cases e
theorem n_lshl : NR s_lshl := fun i pc ls st h r e c => by
  unfold s_lshl at e
  repeat' (split at e)
  all_goals first
    | (cases e; exact ⟨rfl, c, rfl⟩)
    | (obtain ⟨_, _, e2⟩ := Option.map_eq_some_iff.mp e; cases e2; exact ⟨rfl, c, rfl⟩)
    | cases e
theorem n_lstore : NR s_lstore := fun i pc ls st h r e c => by
  unfold s_lstore at e
  repeat' (split at e)
  all_goals first
    | (cases e; exact ⟨rfl, c, rfl⟩)
    | (obtain ⟨_, _, e2⟩ := Option.map_eq_some_iff.mp e; cases e2; exact ⟨rfl, c, rfl⟩)
    | cases e
theorem n_lsub : NR s_lsub := fun i pc ls st h r e c => by
  unfold s_lsub at e
  repeat' (split at e)
  all_goals first
    | (cases e; exact ⟨rfl, c, rfl⟩)
    | (obtain ⟨_, _, e2⟩ := Option.map_eq_some_iff.mp e; cases e2; exact ⟨rfl, c, rfl⟩)
    | cases e
theorem n_lushr : NR s_lushr := fun i pc ls st h r e c => by
  unfold s_lushr at e
  repeat' (split at e)
  all_goals first
    | (cases e; exact ⟨rfl, c, rfl⟩)
    | (obtain ⟨_, _, e2⟩ := Option.map_eq_some_iff.mp e; cases e2; exact ⟨rfl, c, rfl⟩)
    | cases e
theorem n_lxor : NR s_lxor := fun i pc ls st h r e c => by
  unfold s_lxor at e
  repeat' (split at e)
  all_goals first
    | (cases e; exact ⟨rfl, c, rfl⟩)
    | (obtain ⟨_, _, e2⟩ := Option.map_eq_some_iff.mp e; cases e2; exact ⟨rfl, c, rfl⟩)
    | cases e
theorem n_mmax : NR s_mmax := fun i pc ls st h r e c => by
  unfold s_mmax at e
  repeat' (split at e)
  all_goals first
    | (cases e; exact ⟨rfl, c, rfl⟩)
    | (obtain ⟨_, _, e2⟩ := Option.map_eq_some_iff.mp e; cases e2; exact ⟨rfl, c, rfl⟩)
    | cases e
theorem n_mmin : NR s_mmin := fun i pc ls st h r e c => by
  unfold s_mmin at e
  repeat' (split at e)
  all_goals first
    | (cases e; exact ⟨rfl, c, rfl⟩)
    | (obtain ⟨_, _, e2⟩ := Option.map_eq_some_iff.mp e; cases e2; exact ⟨rfl, c, rfl⟩)
    | cases e
theorem n_new : NR s_new := fun i pc ls st h r e c => by
  unfold s_new at e
  cases e
  exact nr_new c
theorem n_newB : NR s_newB := fun i pc ls st h r e c => by
  unfold s_newB at e
  repeat' (split at e)
  all_goals first
    | (cases e; exact nr_new c)
    | cases e
theorem n_newI : NR s_newI := fun i pc ls st h r e c => by
  unfold s_newI at e
  repeat' (split at e)
  all_goals first
    | (cases e; exact nr_new c)
    | cases e
theorem n_newL : NR s_newL := fun i pc ls st h r e c => by
  unfold s_newL at e
  repeat' (split at e)
  all_goals first
    | (cases e; exact nr_new c)
    | cases e
theorem n_newZ : NR s_newZ := fun i pc ls st h r e c => by
  unfold s_newZ at e
  repeat' (split at e)
  all_goals first
    | (cases e; exact nr_new c)
    | cases e
theorem n_nonnull : NR s_nonnull := fun i pc ls st h r e c => by
  unfold s_nonnull at e
  repeat' (split at e)
  all_goals first
    | (cases e; exact ⟨rfl, c, rfl⟩)
    | (obtain ⟨_, _, e2⟩ := Option.map_eq_some_iff.mp e; cases e2; exact ⟨rfl, c, rfl⟩)
    | cases e
theorem n_nop : NR s_nop := fun i pc ls st h r e c => by
  unfold s_nop at e
  repeat' (split at e)
  all_goals first
    | (cases e; exact ⟨rfl, c, rfl⟩)
    | (obtain ⟨_, _, e2⟩ := Option.map_eq_some_iff.mp e; cases e2; exact ⟨rfl, c, rfl⟩)
    | cases e
theorem n_oinit : NR s_oinit := fun i pc ls st h r e c => by
  unfold s_oinit at e
  repeat' (split at e)
  all_goals first
    | (cases e; exact ⟨rfl, c, rfl⟩)
    | (obtain ⟨_, _, e2⟩ := Option.map_eq_some_iff.mp e; cases e2; exact ⟨rfl, c, rfl⟩)
    | cases e
theorem n_pop : NR s_pop := fun i pc ls st h r e c => by
  unfold s_pop at e
  repeat' (split at e)
  all_goals first
    | (cases e; exact ⟨rfl, c, rfl⟩)
    | (obtain ⟨_, _, e2⟩ := Option.map_eq_some_iff.mp e; cases e2; exact ⟨rfl, c, rfl⟩)
    | cases e
theorem n_pop2 : NR s_pop2 := fun i pc ls st h r e c => by
  unfold s_pop2 at e
  repeat' (split at e)
  all_goals first
    | (cases e; exact ⟨rfl, c, rfl⟩)
    | (obtain ⟨_, _, e2⟩ := Option.map_eq_some_iff.mp e; cases e2; exact ⟨rfl, c, rfl⟩)
    | cases e
theorem n_slen : NR s_slen := fun i pc ls st h r e c => by
  unfold s_slen at e
  repeat' (split at e)
  all_goals first
    | (cases e; exact ⟨rfl, c, rfl⟩)
    | (obtain ⟨_, _, e2⟩ := Option.map_eq_some_iff.mp e; cases e2; exact ⟨rfl, c, rfl⟩)
    | cases e
theorem n_sload : NR s_sload := fun i pc ls st h r e c => by
  unfold s_sload at e
  repeat' (split at e)
  all_goals first
    | (cases e; exact ⟨rfl, c, rfl⟩)
    | (obtain ⟨_, _, e2⟩ := Option.map_eq_some_iff.mp e; cases e2; exact ⟨rfl, c, rfl⟩)
    | cases e
theorem n_switch : NR s_switch := fun i pc ls st h r e c => by
  unfold s_switch at e
  repeat' (split at e)
  all_goals first
    | (cases e; exact ⟨rfl, c, rfl⟩)
    | (obtain ⟨_, _, e2⟩ := Option.map_eq_some_iff.mp e; cases e2; exact ⟨rfl, c, rfl⟩)
    | cases e
theorem HS_a : ∀ q ∈ HS.take 67, NR q.2 := fmc n_nop <| fmc n_iadd <| fmc n_isub <| fmc n_imul <| fmc n_iand <| fmc n_ior <| fmc n_ixor <| fmc n_ishl <| fmc n_ishr <| fmc n_iushr <| fmc n_idiv <| fmc n_irem <| fmc n_ladd <| fmc n_lsub <| fmc n_lmul <| fmc n_land <| fmc n_lor <| fmc n_lxor <| fmc n_ldiv <| fmc n_lrem <| fmc n_lshl <| fmc n_lushr <| fmc n_lcmp <| fmc n_ineg <| fmc n_i2l <| fmc n_l2i <| fmc n_i2b <| fmc n_dup <| fmc n_pop <| fmc n_pop2 <| fmc n_dup22 <| fmc n_dup211 <| fmc n_ipush <| fmc n_lpush <| fmc n_ldc <| fmc n_ldc2 <| fmc n_iload <| fmc n_aload <| fmc n_lload <| fmc n_aloadS <| fmc n_istore <| fmc n_astore <| fmc n_lstore <| fmc n_iinc <| fmc n_if_eq <| fmc n_icmp_eq <| fmc n_if_ne <| fmc n_icmp_ne <| fmc n_if_lt <| fmc n_icmp_lt <| fmc n_if_ge <| fmc n_icmp_ge <| fmc n_if_gt <| fmc n_icmp_gt <| fmc n_if_le <| fmc n_icmp_le <| fmc n_goto <| fmc n_nonnull <| fmc n_iaload <| fmc n_laload <| fmc n_baload <| fmc n_alen <| fmc n_iastore <| fmc n_lastore <| fmc n_bastore <| fmc n_getf <| fmc n_getf <| fmn
theorem HS_c : ∀ q ∈ HS.drop 70, NR q.2 := fmc n_new <| fmc n_newI <| fmc n_newB <| fmc n_newZ <| fmc n_newL <| fmc n_sload <| fmc n_slen <| fmc n_switch <| fmc n_oinit <| fmc n_copyI <| fmc n_copyB <| fmc n_copyL <| fmc n_mmax <| fmc n_mmin <| fmn
theorem HS_nr {j : Nat} {q : PChk × PSem} (h : HS[j]? = some q) : NR q.2 ∨ (67 ≤ j ∧ j ≤ 69 ∧ q.2 = s_putf) := by
  by_cases a : j < 67
  · refine Or.inl (HS_a q (List.mem_of_getElem? (i := j) ?_))
    rw [List.getElem?_take_of_lt a]
    exact h
  · by_cases b : 69 < j
    · refine Or.inl (HS_c q (List.mem_of_getElem? (i := j - 70) ?_))
      rw [List.getElem?_drop, show 70 + (j - 70) = j by omega]
      exact h
    · refine Or.inr ⟨by omega, by omega, ?_⟩
      rcases (show j = 67 ∨ j = 68 ∨ j = 69 by omega) with e | e | e <;> subst e <;> cases h <;> rfl
theorem n_putf {i : PI} {pc : Nat} {ls st : List Value} {h : PH} {r : Nat × List Value × List Value × PH} (e : s_putf i pc ls st h = some r) (hs : h_sh h 0 = some (0, 11)) (c : 0 < h_ct h) : h_sh r.2.2.2 0 = h_sh h 0 ∧ 0 < h_ct r.2.2.2 ∧ ∀ k, ¬ (p_c i = 11 ∧ p_e i = k) → h_r r.2.2.2 0 k = h_r h 0 k := by
  unfold s_putf at e
  split at e
  next v o rest =>
    split at e
    next hc =>
      obtain ⟨h2, e1, e2⟩ := Option.map_eq_some_iff.mp e
      cases e2
      have key : h_sh h2 = h_sh h ∧ h_ct h2 = h_ct h ∧ ∀ k, ¬ (p_c i = 11 ∧ p_e i = k) → h_r h2 0 k = h_r h 0 k := by
        have no : ∀ k, ¬ (p_c i = 11 ∧ p_e i = k) → ¬ (0 = o ∧ k = p_e i) := fun k hk z => by
          have hc1 := hc.1
          rw [← z.1, hs] at hc1
          injection hc1 with e1
          injection e1 with e2 e3
          exact hk ⟨e3.symm, z.2.symm⟩
        unfold putv at e1
        split at e1
        · cases e1
          exact ⟨rfl, rfl, fun _ _ => rfl⟩
        · cases e1
          exact ⟨rfl, rfl, fun _ _ => rfl⟩
        · cases e1
          exact ⟨rfl, rfl, fun k hk => by rw [h_r_wr, if_neg (no k hk)]⟩
        · cases e1
          exact ⟨rfl, rfl, fun k hk => by rw [h_r_wr, if_neg (no k hk)]⟩
        · cases e1
      obtain ⟨k1, k2, k3⟩ := key
      exact ⟨by show h_sh h2 0 = _; rw [k1], by show 0 < h_ct h2; rw [k2]; exact c, k3⟩
    next hc => cases e
  · cases e
/-- the calls that may set a reference of the object -/
def badL : Nat → List Nat
  | 5 => [129, 143, 144, 145, 146, 147, 152, 154, 155]
  | 6 => [125, 126, 127, 128, 130, 153]
  | 7 => [129]
  | 8 => [137, 138, 139, 156]
  | 9 => [141]
  | 10 => [143, 144, 145, 154]
  | 11 => [146, 147, 155]
  | 12 => [148, 149, 157]
  | _ => []
def rowOK (k : Nat) (i : PI) : Bool := !(decide (67 ≤ i.1) && decide (i.1 ≤ 69) && decide (p_c i = 11) && decide (p_e i = k)) && (!(decide (i.1 = 110)) || !((badL k).contains (p_b i)))
def codeKp (k id : Nat) : Bool := (badL k).contains id || (m_code (mOf id)).all (rowOK k)
set_option maxRecDepth 100000 in
theorem code_kp : ∀ k ∈ [5, 6, 7, 8, 9, 10, 11, 12], ∀ id, id < 288 → codeKp k id = true := by decide +kernel
theorem code_all {k id : Nat} (h5 : 5 ≤ k) (h12 : k ≤ 12) (hb : (badL k).contains id = false) : ∀ i ∈ m_code (mOf id), rowOK k i = true := by
  by_cases y : id < 288
  · have h1 := code_kp k (by simp only [List.mem_cons, List.not_mem_nil]; omega) id y
    unfold codeKp at h1
    rw [hb, Bool.false_or] at h1
    exact List.all_eq_true.mp h1
  · intro i hi
    have e : mOf id = pm0 := by
      unfold mOf
      have : mTs.getD (id / 32) [] = [] := by
        rw [List.getD_eq_getElem?_getD, List.getElem?_eq_none (by show 9 ≤ id / 32; omega)]
        rfl
      rw [this]
      rfl
    rw [e] at hi
    cases hi
theorem row_put {k : Nat} {i : PI} (h : rowOK k i = true) (h1 : 67 ≤ i.1) (h2 : i.1 ≤ 69) : ¬ (p_c i = 11 ∧ p_e i = k) := fun z => by
  unfold rowOK at h
  rw [decide_eq_true h1, decide_eq_true h2, decide_eq_true z.1, decide_eq_true z.2] at h
  cases h
theorem row_call {k : Nat} {i : PI} (h : rowOK k i = true) (h1 : i.1 = 110) : (badL k).contains (p_b i) = false := by
  unfold rowOK at h
  rw [decide_eq_true h1] at h
  cases e : (badL k).contains (p_b i) with
  | false => rfl
  | true =>
    rw [e] at h
    simp at h
def Kept (k : Nat) (h h' : PH) : Prop := h_r h' 0 k = h_r h 0 k ∧ h_sh h' 0 = some (0, 11) ∧ 0 < h_ct h'
theorem exec_keep {k : Nat} {call : PCall} {M : PM} (hc : ∀ id args h r, (badL k).contains id = false → call id args h = some r → h_sh h 0 = some (0, 11) → 0 < h_ct h → Kept k h r.2) (hM : ∀ i ∈ m_code M, rowOK k i = true) : ∀ (n pc : Nat) (ls st : List Value) (h : PH) (r : Option Value × PH), px_exec mOf call M n pc ls st h = some r → h_sh h 0 = some (0, 11) → 0 < h_ct h → Kept k h r.2 := by
  intro n
  induction n with
  | zero => intro pc ls st h r he; cases he
  | succ n ih =>
    intro pc ls st h r he hs ct
    unfold px_exec at he
    split at he
    · cases he
    next i hi =>
      have hrow := hM i (List.mem_of_getElem? hi)
      split at he
      · split at he
        · cases he
        next q hq =>
          split at he
          · cases he
          next r1 hr =>
            split at he
            next hle =>
              have st1 : Kept k h r1.2.2.2 := by
                rcases HS_nr hq with a | ⟨a1, a2, a3⟩
                · obtain ⟨b1, b2, b3⟩ := a _ _ _ _ _ _ hr ct
                  exact ⟨by rw [b3], b1.trans hs, b2⟩
                · rw [a3] at hr
                  obtain ⟨b1, b2, b3⟩ := n_putf hr hs ct
                  exact ⟨b3 k (row_put hrow a1 a2), b1.trans hs, b2⟩
              have st2 := ih _ _ _ _ _ he st1.2.1 st1.2.2
              exact ⟨st2.1.trans st1.1, st2.2⟩
            · cases he
      · split at he
        next hcall =>
          split at he
          · split at he
            · cases he
            next r1 hr =>
              split at he
              next hle =>
                have st1 := hc _ _ _ _ (row_call hrow hcall) hr hs ct
                have st2 := ih _ _ _ _ _ he st1.2.1 st1.2.2
                exact ⟨st2.1.trans st1.1, st2.2⟩
              · cases he
          · cases he
        · unfold px_ret at he
          split at he
          · split at he
            · split at he
              · cases he; exact ⟨rfl, hs, ct⟩
              · cases he
            · cases he
          · cases he; exact ⟨rfl, hs, ct⟩
          · cases he; exact ⟨rfl, hs, ct⟩
          · cases he; exact ⟨rfl, hs, ct⟩
          · cases he
theorem run_keep {k : Nat} (h5 : 5 ≤ k) (h12 : k ≤ 12) {n : Nat} : ∀ (d id : Nat) (args : List Value) (h : PH) (r : Option Value × PH), (badL k).contains id = false → px_run mOf d n id args h = some r → h_sh h 0 = some (0, 11) → 0 < h_ct h → Kept k h r.2
  | 0, id, args, h, r, _, he, _, _ => by cases he
  | d + 1, id, args, h, r, hb, he, hs, ct => by
    unfold px_run at he
    split at he
    · cases he
    · exact exec_keep (fun id' args' h' r' b e s c => run_keep h5 h12 d id' args' h' r' b e s c) (code_all h5 h12 hb) _ _ _ _ _ _ he hs ct
/-- a call leaves the references that its code can't set -/
def Kps (id : Nat) (h h' : PH) : Prop := ∀ k, 5 ≤ k → k ≤ 12 → (badL k).contains id = false → h_r h' 0 k = h_r h 0 k
theorem wpm_k {d id : Nat} {args : List Value} {h : PH} {Q R : PQ} (a : wpm d id args h R) (hs : h_sh h 0 = some (0, 11)) (ct : 0 < h_ct h) (k : ∀ r h', R r h' → Kps id h h' → Q r h') : wpm d id args h Q := by
  obtain ⟨n, r, h1, h2⟩ := a
  exact ⟨n, r, h1, k _ _ h2 (fun k' h5 h12 hb => (run_keep h5 h12 d id args h r hb h1 hs ct).1)⟩
