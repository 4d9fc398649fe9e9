/-! THE PURE MACHINE: its runs -/
def s_nop : PSem := fun _ _ _ _ _ => none
def c_nop : PChk := fun _ _ _ _ _ => true
theorem z_nop : SoundP c_nop s_nop := by
  intro G p l e R s m args below meth c Q o ini cc nL i pc pls pst h r H locs cells slots rls F hc hs
  cases hs
def HS1 : List (PChk × PSem) := [(c_nop, s_nop), (c_iadd, s_iadd), (c_isub, s_isub), (c_imul, s_imul), (c_iand, s_iand), (c_ior, s_ior), (c_ixor, s_ixor), (c_ishl, s_ishl), (c_ishr, s_ishr), (c_iushr, s_iushr), (c_idiv, s_idiv), (c_irem, s_irem), (c_ladd, s_ladd), (c_lsub, s_lsub), (c_lmul, s_lmul), (c_land, s_land), (c_lor, s_lor), (c_lxor, s_lxor), (c_ldiv, s_ldiv), (c_lrem, s_lrem), (c_lshl, s_lshl), (c_lushr, s_lushr), (c_lcmp, s_lcmp), (c_ineg, s_ineg), (c_i2l, s_i2l), (c_l2i, s_l2i), (c_i2b, s_i2b), (c_dup, s_dup), (c_pop, s_pop), (c_pop2, s_pop2), (c_dup22, s_dup22), (c_dup211, s_dup211), (c_ipush, s_ipush), (c_lpush, s_lpush), (c_ldc, s_ldc), (c_ldc2, s_ldc2), (c_iload, s_iload), (c_aload, s_aload), (c_lload, s_lload), (c_aloadS, s_aloadS), (c_istore, s_istore), (c_astore, s_astore), (c_lstore, s_lstore), (c_iinc, s_iinc), (c_if_eq, s_if_eq), (c_icmp_eq, s_icmp_eq), (c_if_ne, s_if_ne), (c_icmp_ne, s_icmp_ne), (c_if_lt, s_if_lt), (c_icmp_lt, s_icmp_lt), (c_if_ge, s_if_ge), (c_icmp_ge, s_icmp_ge), (c_if_gt, s_if_gt), (c_icmp_gt, s_icmp_gt), (c_if_le, s_if_le), (c_icmp_le, s_icmp_le), (c_goto, s_goto), (c_nonnull, s_nonnull), (c_iaload, s_iaload), (c_laload, s_laload), (c_baload, s_baload), (c_alen, s_alen), (c_iastore, s_iastore), (c_lastore, s_lastore), (c_bastore, s_bastore), (c_getf, s_getf), (c_getfN, s_getf), (c_putf, s_putf), (c_putfN, s_putf), (c_putfF, s_putf), (c_new, s_new), (c_newI, s_newI), (c_newB, s_newB), (c_newZ, s_newZ), (c_newL, s_newL), (c_sload, s_sload), (c_slen, s_slen), (c_switch, s_switch), (c_oinit, s_oinit), (c_copyI, s_copyI), (c_copyB, s_copyB), (c_copyL, s_copyL), (c_mmax, s_mmax), (c_mmin, s_mmin)]
abbrev HS : List (PChk × PSem) := HS1
theorem fmc {α : Type} {P : α → Prop} {a : α} {l : List α} (h : P a) (t : ∀ x ∈ l, P x) : ∀ x ∈ a :: l, P x := List.forall_mem_cons.mpr ⟨h, t⟩
theorem fmn {α : Type} {P : α → Prop} : ∀ x ∈ ([] : List α), P x := fun _ h => absurd h List.not_mem_nil
theorem HS_ok : ∀ q ∈ HS, SoundP q.1 q.2 := fmc z_nop <| fmc z_iadd <| fmc z_isub <| fmc z_imul <| fmc z_iand <| fmc z_ior <| fmc z_ixor <| fmc z_ishl <| fmc z_ishr <| fmc z_iushr <| fmc z_idiv <| fmc z_irem <| fmc z_ladd <| fmc z_lsub <| fmc z_lmul <| fmc z_land <| fmc z_lor <| fmc z_lxor <| fmc z_ldiv <| fmc z_lrem <| fmc z_lshl <| fmc z_lushr <| fmc z_lcmp <| fmc z_ineg <| fmc z_i2l <| fmc z_l2i <| fmc z_i2b <| fmc z_dup <| fmc z_pop <| fmc z_pop2 <| fmc z_dup22 <| fmc z_dup211 <| fmc z_ipush <| fmc z_lpush <| fmc z_ldc <| fmc z_ldc2 <| fmc z_iload <| fmc z_aload <| fmc z_lload <| fmc z_aloadS <| fmc z_istore <| fmc z_astore <| fmc z_lstore <| fmc z_iinc <| fmc z_if_eq <| fmc z_icmp_eq <| fmc z_if_ne <| fmc z_icmp_ne <| fmc z_if_lt <| fmc z_icmp_lt <| fmc z_if_ge <| fmc z_icmp_ge <| fmc z_if_gt <| fmc z_icmp_gt <| fmc z_if_le <| fmc z_icmp_le <| fmc z_goto <| fmc z_nonnull <| fmc z_iaload <| fmc z_laload <| fmc z_baload <| fmc z_alen <| fmc z_iastore <| fmc z_lastore <| fmc z_bastore <| fmc z_getf <| fmc z_getfN <| fmc z_putf <| fmc z_putfN <| fmc z_putfF <| fmc z_new <| fmc z_newI <| fmc z_newB <| fmc z_newZ <| fmc z_newL <| fmc z_sload <| fmc z_slen <| fmc z_switch <| fmc z_oinit <| fmc z_copyI <| fmc z_copyB <| fmc z_copyL <| fmc z_mmax <| fmc z_mmin fmn
/-- a method: its class, name, bytes, locals, what it answers, kind (0 static, 1 of an object, 2 constructor), how many parameters, places of its words, its rows by pc -/
abbrev PM : Type := Nat × MethodName × ByteArray × Nat × Option FieldType × Nat × Nat × (Nat × Nat × Nat × Nat) × List PI
abbrev m_o (M : PM) : Nat := M.1
abbrev m_y (M : PM) : MethodName := M.2.1
abbrev m_b (M : PM) : ByteArray := M.2.2.1
abbrev m_L (M : PM) : Nat := M.2.2.2.1
abbrev m_ret (M : PM) : Option FieldType := M.2.2.2.2.1
abbrev m_kd (M : PM) : Nat := M.2.2.2.2.2.1
abbrev m_np (M : PM) : Nat := M.2.2.2.2.2.2.1
abbrev m_pl (M : PM) : Nat × Nat × Nat × Nat := M.2.2.2.2.2.2.2.1
abbrev m_code (M : PM) : List PI := M.2.2.2.2.2.2.2.2
def m_ini (M : PM) : Bool := (m_y M).name == "<init>"
abbrev PCall : Type := Nat → List Value → PH → Option (Option Value × PH)
abbrev PRes : Type := Option (Option Value × PH)
def px_ret (M : PM) (i : PI) (st : List Value) (h : PH) : PRes := match i.1, st with
  | 100, [.int v] => (match m_ret M with
    | some ty => if narrow ty (.int v) = .int v then some (some (.int v), h) else none
    | none => none)
  | 101, [.long v] => some (some (.long v), h)
  | 102, [.ref a] => some (some (.ref a), h)
  | 103, [] => some (none, h)
  | _, _ => none
def recvOK (kd o : Nat) (h : PH) (args : List Value) : Bool := match kd, args with
  | 0, _ => true
  | 1, .ref b :: _ => h_sh h b == some (0, o)
  | 2, .ref _ :: _ => true
  | _, _ => false
def h_le (h h' : PH) : Prop := h_ct h ≤ h_ct h' ∧ h_sl h ≤ h_sl h'
def h_leB (h h' : PH) : Bool := decide (h_ct h ≤ h_ct h' ∧ h_sl h ≤ h_sl h')
/-- a run within one method, of n steps at most -/
def px_exec (mOf : Nat → PM) (call : PCall) (M : PM) : Nat → Nat → List Value → List Value → PH → PRes
  | 0, _, _, _, _ => none
  | n + 1, pc, ls, st, h =>
    match (m_code M)[pc]? with
    | none => none
    | some i =>
      if i.1 < 100 then
        match HS[i.1]? with
        | none => none
        | some q => match q.2 i pc ls st h with
          | none => none
          | some r => if h_leB h r.2.2.2 = true then px_exec mOf call M n r.1 r.2.1 r.2.2.1 r.2.2.2 else none
      else if i.1 = 110 then
        if p_c i ≤ st.length ∧ (st.drop (p_c i)).length ≤ 4 ∧ recvOK (m_kd (mOf (p_b i))) (m_o (mOf (p_b i))) h (st.take (p_c i)).reverse = true then
          match call (p_b i) (st.take (p_c i)).reverse h with
          | none => none
          | some r => if h_leB h r.2 = true then px_exec mOf call M n (pc + 3) ls (r.1.toList ++ st.drop (p_c i)) r.2 else none
        else none
      else px_ret M i st h
def ent1 (v : Value) : List Value := if v.category = 2 then [v, .retAddr 2] else [v]
def ents (nL : Nat) (args : List Value) : List Value := args.flatMap ent1 ++ List.replicate (nL - (args.flatMap ent1).length) (.retAddr 0)
/-- a call, at a depth of d at most -/
def px_run (mOf : Nat → PM) : Nat → Nat → PCall
  | 0, _ => fun _ _ _ => none
  | d + 1, n => fun id args h => if m_o (mOf id) = 13 ∨ m_L (mOf id) < (args.flatMap ent1).length then none else px_exec mOf (px_run mOf d n) (mOf id) n 0 (ents (m_L (mOf id)) args) [] h
theorem h_leB_le {h h' : PH} (q : h_leB h h' = true) : h_le h h' := of_decide_eq_true (p := h_ct h ≤ h_ct h' ∧ h_sl h ≤ h_sl h') q
theorem px_mono (mOf : Nat → PM) (call : PCall) (M : PM) : ∀ (n pc : Nat) (ls st : List Value) (h : PH) (r : Option Value × PH), px_exec mOf call M n pc ls st h = some r → h_le h r.2 := by
  intro n
  induction n with
  | zero => intro pc ls st h r he; cases he
  | succ n ih =>
    intro pc ls st h r he
    unfold px_exec at he
    split at he
    · cases he
    next i hi =>
      split at he
      · split at he
        · cases he
        next q hq =>
          split at he
          · cases he
          next r1 hr =>
            split at he
            next hle =>
              have h1 := h_leB_le hle
              have h2 := ih _ _ _ _ _ he
              exact ⟨Nat.le_trans h1.1 h2.1, Nat.le_trans h1.2 h2.2⟩
            · cases he
      · split at he
        · split at he
          · split at he
            · cases he
            next r1 hr =>
              split at he
              next hle =>
                have h1 := h_leB_le hle
                have h2 := ih _ _ _ _ _ he
                exact ⟨Nat.le_trans h1.1 h2.1, Nat.le_trans h1.2 h2.2⟩
              · cases he
          · cases he
        · unfold px_ret at he
          split at he
          · split at he
            · split at he
              · cases he; exact ⟨Nat.le_refl _, Nat.le_refl _⟩
              · cases he
            · cases he
          · cases he; exact ⟨Nat.le_refl _, Nat.le_refl _⟩
          · cases he; exact ⟨Nat.le_refl _, Nat.le_refl _⟩
          · cases he; exact ⟨Nat.le_refl _, Nat.le_refl _⟩
          · cases he
