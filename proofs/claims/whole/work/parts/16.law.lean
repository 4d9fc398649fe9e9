/-! THE CLAIM OUT OF ONE WALK OF THE LAW'S BODY. Your part is whole_start (and what it stands on); all else here is the same for every law, but numbers. -/
def R_law : String := "OneWaySpellLaw"
def lw_P (b : Addr) (xs : List Int32) (args : Array Value) (s : State) : Prop := args = #[.ref b] ∧ s.IntsAt b xs ∧ xs.length ≤ 3072 ∧ (Jvm.Cond.and given_1 narrow_1).before args s = true
def lw_Q (_ : Array Value) (s : State) (o : Outcome) (t : State) : Prop := o = .returned (some (.int 1)) ∧ Framed s o t [] room_1.cells room_1.slots
def lw_Z (below : List Frame) (a : Array Value) (s : State) : State → Prop := fun t => ∃ o, t.status = .running ∧ Ended t below o ∧ lw_Q a s o t
/-- the law's own end, with 1 on the stack, nothing written that was there before, its room as the claim has it -/
theorem lw_ret {p : Program} {l : Launch} {e : Env} {s : State} {m : MethodId} {below : List Frame} {meth : Method} {c : Code} {b : Nat} (hx : p.tables.exec = Jvm.exec) (hb : c.code = code) (hr : meth.sig.returnType = ret) (hlocks : meth.locks = false) {pc : Nat} {H : Heap} {ls : Array Slot} (hdg : decode code pc = .ok (.ireturn, 1)) : W p l e room_1 s m #[Value.ref b] below meth c H [] room_1.cells room_1.slots (lw_Z below #[Value.ref b] s) (F0 m pc ls [.int 1]) := by
  intro T hT X
  obtain ⟨fs, hret, hrun, hended, hW, hframe⟩ := X.leave (v := some (.int 1)) (hlocks := hlocks) (fun h => by rw [hr] at h; cases h)
  have hmeth' : T.vm.method? m = some meth := X.method'
  refine ⟨T.setFrames fs, ?_, .returned (some (.int 1)), hrun, hended, rfl, ⟨_, rfl⟩, hW, hframe⟩
  jvm_step X.here [X.here.top, hx, hb, hdg, hmeth', hr, ret, narrow_b1]
  (try refine ⟨rfl, ?_⟩); (try refine ⟨rfl, ?_⟩)
  first | (intro acts; rw [hret _ acts rfl rfl rfl]) | rw [hret _ _ rfl rfl rfl]
  exact Steps.refl _
/-- what holds at the law's entry: the machine, the code, the tables' words (any of lw_tbl by 'hts w (by decide +kernel)'), the script of L ints xs at the cell b, what the Statement gives of the start (any of its parts by flat_of_before) -/
def lw_At (p : Program) (s : State) (m : MethodId) (meth : Method) (c : Code) (b L : Nat) (xs : Nat → Int32) : Prop :=
  p.tables.exec = Jvm.exec ∧ c.code = code ∧ meth.sig.returnType = ret ∧ c.maxLocals = 4 ∧ s.vm.findClass R_law = some m.cls ∧ (∀ w ∈ lw_tbl, w.before #[Value.ref b] s = true) ∧ va_X b L xs s s.heap ∧ b < s.heap.size ∧ meth.locks = false ∧ (Jvm.Cond.and given_1 narrow_1).before #[Value.ref b] s = true
/-- the pure machine's start -/
def ph0 (L : Nat) (xs : Nat → Int32) : PH := (fun _ => none, fun _ _ => 0, fun _ _ => 0, fun _ _ => none, 0, 0, L, xs)
/-- WHAT IS LEFT: on every script the law's run in the pure machine ends with 1, within the room -/
def LawRuns : Prop := ∀ (L : Nat) (xs : Nat → Int32), L ≤ 3072 → ∃ (n d : Nat) (h : PH), d ≤ 100 ∧ h_ct h ≤ 574544 ∧ h_sl h ≤ 7302250 ∧ px_exec mOf (px_run mOf d n) P_Lw_law n 0 [.retAddr 1, .retAddr 0, .retAddr 0, .retAddr 0] [] (ph0 L xs) = some (some (.int 1), h)
theorem arr_of {s : State} {args : Array Value} {ty : FieldType} (h : (Cond.arrayClass ty).before args s = true) : ∃ cA : ClassId, s.vm.findClass ("[" ++ ty.toString) = some cA ∧ ArrOfT s cA ty := by
  obtain ⟨cA, kA, comp, hfind, hk, hkind⟩ := Cond.arrayClass_spec h
  exact ⟨cA, hfind, fun n z => ⟨fun k h => (by cases h), kA, hk, comp, hkind⟩⟩
theorem whole_of (hlaw : LawRuns) {p : Program} {e : Env} {s : State} {m : MethodId} {below : List Frame} {meth : Method} {c : Code} (l : Launch) {b L : Nat} {xs : Nat → Int32} (hL : L ≤ 3072) (C0 : lw_At p s m meth c b L xs) : W p l e room_1 s m #[Value.ref b] below meth c s.heap [] 0 0 (lw_Z below #[Value.ref b] s) (entryFrame m ([Value.ref b] : List Value).toArray 4) := by
  obtain ⟨hx, hb, hr, hml, hown, hts, hX, hbl, hlocks, hgv⟩ := id C0
  have htg : ∀ w ∈ gt, w.before #[Value.ref b] s = true := fun w hw => hts w (List.mem_filter.mp hw).1
  have hcl : ∀ k : Nat, ∃ z : ClassId × (Nat → Nat), ∀ q : vw_C, cls[k]? = some q → u_Kn s q.1 q.2.1 q.2.2 z.1 z.2 := fun k => by
    cases hk : cls[k]? with
    | none => exact ⟨(m.cls, fun _ => 0), fun q hq => by cases hq⟩
    | some q =>
      obtain ⟨C, T, N⟩ := q
      obtain ⟨o1, -, -, -, o5, -⟩ := cls_ok k C T N hk
      obtain ⟨cC, iS, hKn⟩ := u_known htg o1 (htg _ o5)
      exact ⟨(cC, iS), fun q hq => by cases hq; exact hKn⟩
  obtain ⟨f, hf⟩ := Classical.axiomOfChoice hcl
  obtain ⟨cI, i1, i2⟩ := arr_of (htg (.arrayClass .int) (gt_in 269 (by decide +kernel) rfl))
  obtain ⟨cB, b1, b2⟩ := arr_of (htg (.arrayClass .byte) (gt_in 267 (by decide +kernel) rfl))
  obtain ⟨cZ, z1, z2⟩ := arr_of (htg (.arrayClass .boolean) (gt_in 339 (by decide +kernel) rfl))
  obtain ⟨cJ, j1, j2⟩ := arr_of (htg (.arrayClass .long) (gt_in 268 (by decide +kernel) rfl))
  obtain ⟨G, hG⟩ : ∃ G : Gx, G = (s.heap.size, b, L, xs, (fun k => (f k).1, fun k => (f k).2), fun ty => match ty with
    | .int => cI
    | .byte => cB
    | .boolean => cZ
    | _ => cJ) := ⟨_, rfl⟩
  have hKs : Ks G s := by
    rw [hG]
    refine ⟨⟨fun k q hq => hf k q hq, fun k q hq => ?_⟩, fun w hw => ?_⟩
    · match k, hq with
      | 0, hq => cases hq; exact ⟨i2, i1⟩
      | 1, hq => cases hq; exact ⟨b2, b1⟩
      | 2, hq => cases hq; exact ⟨z2, z1⟩
      | 3, hq => cases hq; exact ⟨j2, j1⟩
      | k + 4, hq => simp [tys] at hq
    · obtain ⟨h1, h2⟩ := List.mem_filter.mp hw
      have h3 := hts w h1
      cases w with
      | fieldLinkNest a i b n d x => exact va_Nw.of rfl h3
      | methodLinkNest a i x y => exact va_Nw.of rfl h3
      | _ => cases h2
  have hG1 : G.1 = s.heap.size := by rw [hG]
  have F : Fx G p s m #[Value.ref b] meth c room_1 (m_o P_Lw_law) (m_ini P_Lw_law) (m_b P_Lw_law) (m_L P_Lw_law) := by
    refine ⟨hx, hb, hml, hown, htg, hKs, (fun h => by cases h), Nat.le_of_ble_eq_true rfl, Nat.le_of_ble_eq_true rfl, Nat.le_of_eq hG1, fun _ => ?_⟩
    rw [hG]
    exact ⟨hX, hbl, Nat.not_le.mpr hbl⟩
  obtain ⟨n, d, h, hd, hct0, hsl0, hrun⟩ := hlaw L xs hL
  have hct : h_ct h ≤ room_1.cells := Nat.le_trans hct0 (Nat.le_of_ble_eq_true rfl)
  have hsl : h_sl h ≤ room_1.slots := Nat.le_trans hsl0 (Nat.le_of_ble_eq_true rfl)
  have hl := lv_entry ([.ref b]) (n := 4) (Nat.le_of_ble_eq_true rfl)
  rw [lg_entry_eq]
  generalize (lg_sl ([.ref b]) ++ List.replicate (4 - (lg_sl ([.ref b])).length) Slot.unset).toArray = ls at hl ⊢
  have hLV : LV G ls (m_L P_Lw_law) [.retAddr 1, .retAddr 0, .retAddr 0, .retAddr 0] := by
    refine ⟨lv_mono hl fun q hq => ?_, rfl⟩
    obtain ⟨v, g1, g2, g3⟩ := mem_lvs.mp hq
    obtain ⟨j, w⟩ := q
    dsimp only at g1 g2 g3
    match j, g1, g2 with
    | 0, g1, g2 => cases g1; rw [g3, hG]; exact List.mem_cons_self
    | 1, g1, g2 => cases g1; cases g2
    | 2, g1, g2 => cases g1; cases g2
    | 3, g1, g2 => cases g1; cases g2
    | j + 4, g1, g2 => simp at g1
  have hWh : Wh G (ph0 L xs) s.heap := by
    refine ⟨hG1.symm, by rw [hG]; rfl, fun c q hq => by cases hq⟩
  have hcE : h_ct (ph0 L xs) = 0 := rfl
  have hsE : h_sl (ph0 L xs) = 0 := rfl
  refine exec_sound tok law_code (call := px_run mOf d n) (d := d) (run_sound tok G l n d) F ⟨Nat.le_trans (Nat.add_le_add_right hd 2) (Nat.le_of_ble_eq_true rfl), Nat.le_trans (Nat.add_le_add_left (Nat.mul_le_mul_left 100 (Nat.add_le_add_right hd 1)) 60) (Nat.le_of_ble_eq_true rfl)⟩ (rE := (some (.int 1), h)) (CE := h_ct h) (SE := h_sl h) hct hsl ?_ n 0 _ [] (ph0 L xs) s.heap [] 0 0 ls hrun hWh va_S.rf hLV (by show 0 + (h_ct h - 0) = h_ct h; omega) (by show 0 + (h_sl h - 0) = h_sl h; omega)
  intro H' locs' rls' pc' hW' hS' hret
  obtain ⟨hd, -⟩ := hret
  refine va_forget (fun q hq => by rw [← hG1]; exact hS'.2.2 q hq) ?_
  refine W.widen hct hsl ?_
  exact lw_ret hx hb hr hlocks hd
