/-! THE PURE MACHINE: its state, its relation to the real one. A reference is the number of a cell, in the order in which cells are made; the cell's real address is base + number. -/
abbrev PI : Type := Nat × Nat × Int × Nat × Nat × Nat
abbrev PH : Type := (Nat → Option (Nat × Nat)) × (Nat → Nat → Int32) × (Nat → Nat → Int64) × (Nat → Nat → Option Nat) × Nat × Nat × Nat × (Nat → Int32)
abbrev p_len (i : PI) : Nat := i.2.1
abbrev p_a (i : PI) : Int := i.2.2.1
abbrev p_b (i : PI) : Nat := i.2.2.2.1
abbrev p_c (i : PI) : Nat := i.2.2.2.2.1
abbrev p_e (i : PI) : Nat := i.2.2.2.2.2
def h_sh (h : PH) : Nat → Option (Nat × Nat) := h.1
def h_i (h : PH) : Nat → Nat → Int32 := h.2.1
def h_l (h : PH) : Nat → Nat → Int64 := h.2.2.1
def h_r (h : PH) : Nat → Nat → Option Nat := h.2.2.2.1
def h_ct (h : PH) : Nat := h.2.2.2.2.1
def h_sl (h : PH) : Nat := h.2.2.2.2.2.1
def h_sc (h : PH) : Nat × (Nat → Int32) := h.2.2.2.2.2.2
def up2 {α : Type} (f : Nat → Nat → α) (c k : Nat) (v : α) : Nat → Nat → α := fun c' k' => if c' = c then (if k' = k then v else f c' k') else f c' k'
def upr {α : Type} (f : Nat → Nat → α) (c : Nat) (g : Nat → α) : Nat → Nat → α := fun c' => if c' = c then g else f c'
def w_i (h : PH) (c k : Nat) (v : Int32) : PH := (h_sh h, up2 (h_i h) c k v, h_l h, h_r h, h_ct h, h_sl h, h_sc h)
def w_l (h : PH) (c k : Nat) (v : Int64) : PH := (h_sh h, h_i h, up2 (h_l h) c k v, h_r h, h_ct h, h_sl h, h_sc h)
def w_r (h : PH) (c k : Nat) (v : Option Nat) : PH := (h_sh h, h_i h, h_l h, up2 (h_r h) c k v, h_ct h, h_sl h, h_sc h)
def w_ri (h : PH) (c : Nat) (g : Nat → Int32) : PH := (h_sh h, upr (h_i h) c g, h_l h, h_r h, h_ct h, h_sl h, h_sc h)
def w_rl (h : PH) (c : Nat) (g : Nat → Int64) : PH := (h_sh h, h_i h, upr (h_l h) c g, h_r h, h_ct h, h_sl h, h_sc h)
def h_new (h : PH) (q : Nat × Nat) (n : Nat) : PH := (fun c => if c = h_ct h then some q else h_sh h c, upr (h_i h) (h_ct h) (fun _ => 0), upr (h_l h) (h_ct h) (fun _ => 0), upr (h_r h) (h_ct h) (fun _ => none), h_ct h + 1, h_sl h + n, h_sc h)
theorem up2_row {α : Type} (f : Nat → Nat → α) (c k : Nat) (v : α) : up2 f c k v c = fun j => if j = k then v else f c j := by funext j; simp [up2]
theorem up2_ne {α : Type} (f : Nat → Nat → α) {c c' : Nat} (k : Nat) (v : α) (h : c' ≠ c) : up2 f c k v c' = f c' := by funext j; simp [up2, h]
theorem upr_row {α : Type} (f : Nat → Nat → α) (c : Nat) (g : Nat → α) : upr f c g c = g := by simp [upr]
theorem upr_ne {α : Type} (f : Nat → Nat → α) {c c' : Nat} (g : Nat → α) (h : c' ≠ c) : upr f c g c' = f c' := by simp [upr, h]
/-- what is fixed of the real machine: base, the script's cell, length and numbers; classes and slots; the arrays' classes -/
abbrev Gx : Type := Nat × Nat × Nat × (Nat → Int32) × va_G × (FieldType → ClassId)
def tr (G : Gx) (v : Value) : Value := match v with
  | .ref c => .ref (G.1 + c)
  | .retAddr _ => .ref G.2.1
  | v => v
theorem tr_int (G : Gx) (x : Int32) : tr G (.int x) = .int x := rfl
theorem tr_long (G : Gx) (x : Int64) : tr G (.long x) = .long x := rfl
theorem tr_ref (G : Gx) (c : Nat) : tr G (.ref c) = .ref (G.1 + c) := rfl
theorem tr_null (G : Gx) : tr G .null = .null := rfl
theorem tr_cat (G : Gx) (v : Value) : (tr G v).category = v.category := by cases v <;> rfl
/-- locals: a long stands in two places, of which the second holds a mark -/
def okv (pls : List Value) (i : Nat) (v : Value) : Bool := match v with
  | .int _ => true
  | .ref _ => true
  | .null => true
  | .long _ => pls[i + 1]? == some (.retAddr 2)
  | .retAddr n => n == 1
  | _ => false
def lvs (G : Gx) (pls : List Value) : List (Nat × Value) := (List.range pls.length).filterMap (fun i => match pls[i]? with
  | some v => if okv pls i v = true then some (i, tr G v) else none
  | none => none)
theorem mem_lvs {G : Gx} {pls : List Value} {q : Nat × Value} : q ∈ lvs G pls ↔ ∃ v, pls[q.1]? = some v ∧ okv pls q.1 v = true ∧ q.2 = tr G v := by
  unfold lvs
  constructor
  · intro h
    obtain ⟨i, hi, h⟩ := List.mem_filterMap.mp h
    cases hv : pls[i]? with
    | none => rw [hv] at h; cases h
    | some v =>
      rw [hv] at h
      dsimp only at h
      by_cases ho : okv pls i v = true
      · rw [if_pos ho] at h
        cases h
        exact ⟨v, hv, ho, rfl⟩
      · rw [if_neg ho] at h
        cases h
  · intro ⟨v, hv, ho, e⟩
    refine List.mem_filterMap.mpr ⟨q.1, List.mem_range.mpr (List.getElem?_eq_some_iff.mp hv).1, ?_⟩
    rw [hv]
    dsimp only
    rw [if_pos ho, ← e]
def LV (G : Gx) (rls : Array Slot) (nL : Nat) (pls : List Value) : Prop := lv_has rls nL (lvs G pls) ∧ pls.length = nL
theorem LV.at {G : Gx} {rls : Array Slot} {nL : Nat} {pls : List Value} (h : LV G rls nL pls) {i : Nat} {v : Value} (hv : pls[i]? = some v) (ho : okv pls i v = true) : rls[i]? = some (.val (tr G v)) :=
  h.1.2.2 (i, tr G v) (mem_lvs.mpr ⟨v, hv, ho, rfl⟩)
theorem lv_mono {ls : Array Slot} {n : Nat} {a b : List (Nat × Value)} (h : lv_has ls n a) (hs : ∀ q ∈ b, q ∈ a) : lv_has ls n b := ⟨h.1, h.2.1, fun q hq => h.2.2 q (hs q hq)⟩
theorem lvs_set1 {G : Gx} {pls : List Value} {i : Nat} {v : Value} (hm : v ≠ .retAddr 2) (q : Nat × Value) (hq : q ∈ lvs G (pls.set i v)) :
    q ∈ (i, tr G v) :: (lvs G pls).filter (fun q => !(q.1 == i) && !(q.1 + 1 == i && q.2.category == 2)) := by
  obtain ⟨j, w⟩ := q
  obtain ⟨u, hu, ho, e⟩ := mem_lvs.mp hq
  dsimp only at hu ho e
  by_cases hj : j = i
  · subst hj
    have hl : j < pls.length := by have := (List.getElem?_eq_some_iff.mp hu).1; simpa using this
    rw [List.getElem?_set_self hl] at hu
    cases hu
    rw [e]
    exact List.mem_cons_self
  · refine List.mem_cons_of_mem _ (List.mem_filter.mpr ⟨?_, ?_⟩)
    · rw [List.getElem?_set_ne (Ne.symm hj)] at hu
      refine mem_lvs.mpr ⟨u, hu, ?_, e⟩
      cases u with
      | long x =>
        simp only [okv, beq_iff_eq] at ho ⊢
        by_cases h2 : i = j + 1
        · subst h2
          by_cases hl : j + 1 < pls.length
          · rw [List.getElem?_set_self hl] at ho
            exact absurd (Option.some.inj ho) hm
          · rw [List.getElem?_eq_none (by simp; omega)] at ho
            cases ho
        · rw [List.getElem?_set_ne h2] at ho
          exact ho
      | _ => first | rfl | exact ho
    · simp only [Bool.and_eq_true, Bool.not_eq_true', beq_eq_false_iff_ne, ne_eq, Bool.and_eq_false_iff]
      refine ⟨hj, ?_⟩
      cases u with
      | long x =>
        left
        intro h2
        simp only [okv, beq_iff_eq] at ho
        subst h2
        by_cases hl : j + 1 < pls.length
        · rw [List.getElem?_set_self hl] at ho
          exact hm (Option.some.inj ho)
        · rw [List.getElem?_eq_none (by simp; omega)] at ho
          cases ho
      | double x => cases ho
      | _ => right; rw [e, tr_cat]; intro h; cases h
theorem lvs_set2 {G : Gx} {pls : List Value} {i : Nat} {x : Int64} (q : Nat × Value) (hq : q ∈ lvs G ((pls.set i (.long x)).set (i + 1) (.retAddr 2))) :
    q ∈ (i, Value.long x) :: (lvs G pls).filter (fun q => !(q.1 == i) && (!(q.1 == i + 1) && !(q.1 + 1 == i && q.2.category == 2))) := by
  obtain ⟨j, w⟩ := q
  obtain ⟨u, hu, ho, e⟩ := mem_lvs.mp hq
  dsimp only at hu ho e
  by_cases hj1 : j = i + 1
  · subst hj1
    have hl : i + 1 < pls.length := by have := (List.getElem?_eq_some_iff.mp hu).1; simpa using this
    rw [List.getElem?_set_self (by simpa using hl)] at hu
    cases hu
    cases ho
  · by_cases hj : j = i
    · subst hj
      have hl : j < pls.length := by have := (List.getElem?_eq_some_iff.mp hu).1; simpa using this
      rw [List.getElem?_set_ne (by omega), List.getElem?_set_self hl] at hu
      cases hu
      rw [e]
      exact List.mem_cons_self
    · have hu' : pls[j]? = some u := by
        rw [List.getElem?_set_ne (by omega), List.getElem?_set_ne (by omega)] at hu
        exact hu
      refine List.mem_cons_of_mem _ (List.mem_filter.mpr ⟨?_, ?_⟩)
      · refine mem_lvs.mpr ⟨u, hu', ?_, e⟩
        cases u with
        | long y =>
          simp only [okv, beq_iff_eq] at ho ⊢
          rw [List.getElem?_set_ne (by omega)] at ho
          by_cases h2 : i = j + 1
          · subst h2
            by_cases hl : j + 1 < pls.length
            · rw [List.getElem?_set_self hl] at ho
              cases ho
            · rw [List.getElem?_eq_none (by simp; omega)] at ho
              cases ho
          · rw [List.getElem?_set_ne h2] at ho
            exact ho
        | _ => first | rfl | exact ho
      · simp only [Bool.and_eq_true, Bool.not_eq_true', beq_eq_false_iff_ne, ne_eq, Bool.and_eq_false_iff]
        refine ⟨hj, hj1, ?_⟩
        cases u with
        | long y =>
          left
          intro h2
          simp only [okv, beq_iff_eq] at ho
          subst h2
          rw [List.getElem?_set_ne (by omega)] at ho
          by_cases hl : j + 1 < pls.length
          · rw [List.getElem?_set_self hl] at ho
            cases ho
          · rw [List.getElem?_eq_none (by simp; omega)] at ho
            cases ho
        | double y => cases ho
        | _ => right; rw [e, tr_cat]; intro h; cases h
/-- heaps -/
def fkd (ty : FieldType) : Nat := match ty with
  | .long => 1
  | .object _ => 2
  | .array _ => 2
  | _ => 0
def fval (G : Gx) (h : PH) (ci c k : Nat) : Value := match fkd (fty ci k) with
  | 0 => .int (h_i h c k)
  | 1 => .long (h_l h c k)
  | _ => va_rf ((h_r h c k).map (G.1 + ·))
def cel (G : Gx) (h : PH) (c : Nat) (q : Nat × Nat) : va_E := match q.1 with
  | 0 => .inr (q.2, (List.range (fN q.2)).map (fval G h q.2 c))
  | 1 => .inl (G.2.2.2.2.2 .int, q.2, .inl (h_i h c))
  | 2 => .inl (G.2.2.2.2.2 .byte, q.2, .inl (h_i h c))
  | 3 => .inl (G.2.2.2.2.2 .boolean, q.2, .inl (h_i h c))
  | _ => .inl (G.2.2.2.2.2 .long, q.2, .inr (.inl (h_l h c)))
def Wh (G : Gx) (h : PH) (H : Heap) : Prop := H.size = G.1 + h_ct h ∧ h_sc h = (G.2.2.1, G.2.2.2.1) ∧ ∀ (c : Nat) (q : Nat × Nat), h_sh h c = some q → c < h_ct h ∧ va_at G.2.2.2.2.1 cls (G.1 + c, cel G h c q) H
def Ax (G : Gx) : Nat → Prop := fun q => G.1 ≤ q
def tys (G : Gx) : List (ClassId × FieldType) := [(G.2.2.2.2.2 .int, .int), (G.2.2.2.2.2 .byte, .byte), (G.2.2.2.2.2 .boolean, .boolean), (G.2.2.2.2.2 .long, .long)]
def isNest (w : Cond) : Bool := match w with
  | .fieldLinkNest .. => true
  | .methodLinkNest .. => true
  | _ => false
def nt : List Cond := lw_tbl.filter isNest
def Ks (G : Gx) (U : State) : Prop := va_K G.2.2.2.2.1 cls (tys G) U ∧ ∀ w ∈ nt, va_Nw w U
theorem Ks.warm {G : Gx} {s U : State} (hW : s.WarmedH U.vm) (h : Ks G s) : Ks G U := by
  refine ⟨va_K.moved hW.alike h.1, fun w hw => ?_⟩
  have h1 := h.2 w hw
  have h2 := (List.mem_filter.mp hw).2
  cases w with
  | fieldLinkNest a i b n d x => exact va_Nw.warmF hW h1
  | methodLinkNest a i x y => exact va_Nw.warmM hW h1
  | _ => cases h2
theorem Ks.calling {G : Gx} {U : State} {g : JFrame} {mk : MethodId} {a : Array Value} (h : Ks G U) : Ks G (U.calling g mk a) := by
  refine ⟨va_K.moved (u := U) (U := U.calling g mk a) (Vm.Alike.refl U.vm) h.1, fun w hw => ?_⟩
  have h1 := h.2 w hw
  have h2 := (List.mem_filter.mp hw).2
  cases w with
  | fieldLinkNest a i b n d x => exact va_Nw.same (u := U) rfl rfl h1
  | methodLinkNest a i x y => exact va_Nw.same (u := U) rfl rfl h1
  | _ => cases h2
def cNL : List String := [cn0, cn1, cn2, cn3, cn4, cn5, cn6, cn7, cn8, cn9, cn10, cn11, cn12, "OneWaySpellLaw", "java/lang/Math", "java/lang/Integer", "java/util/Arrays"]
def cN (o : Nat) : String := cNL.getD o ""
/-- what is fixed in a frame -/
def Fx (G : Gx) (p : Program) (s : State) (m : MethodId) (args : Array Value) (meth : Method) (c : Code) (R : Room) (o : Nat) (ini : Bool) (cc : ByteArray) (nL : Nat) : Prop :=
  p.tables.exec = Jvm.exec ∧ c.code = cc ∧ c.maxLocals = nL ∧ s.vm.findClass (cN o) = some m.cls ∧ (∀ w ∈ gt, w.before args s = true) ∧ Ks G s ∧ (ini = true → meth.name = "<init>") ∧ 1 ≤ R.frames ∧ 60 ≤ R.locals ∧ G.1 ≤ s.heap.size ∧ (o = 13 → va_X G.2.1 G.2.2.1 G.2.2.2.1 s s.heap ∧ G.2.1 < s.heap.size ∧ ¬ Ax G G.2.1)
abbrev PS : Type := Nat × List Value × List Value × PH
abbrev PSem : Type := PI → Nat → List Value → List Value → PH → Option PS
abbrev PChk : Type := Nat → Bool → ByteArray → Nat → PI → Bool
def SoundP (chk : PChk) (sem : PSem) : Prop := ∀ (G : Gx) (p : Program) (l : Launch) (e : Env) (R : Room) (s : State) (m : MethodId) (args : Array Value) (below : List Frame) (meth : Method) (c : Code) (Q : State → Prop) (o : Nat) (ini : Bool) (cc : ByteArray) (nL : Nat) (i : PI) (pc : Nat) (pls pst : List Value) (h : PH) (r : PS) (H : Heap) (locs : List Loc) (cells slots : Nat) (rls : Array Slot),
  Fx G p s m args meth c R o ini cc nL → chk o ini cc pc i = true → sem i pc pls pst h = some r → Wh G h H → va_S (Ax G) s.heap H locs → LV G rls nL pls →
  cells + (h_ct r.2.2.2 - h_ct h) ≤ R.cells → slots + (h_sl r.2.2.2 - h_sl h) ≤ R.slots →
  (∀ (H' : Heap) (locs' : List Loc) (rls' : Array Slot), Wh G r.2.2.2 H' → va_S (Ax G) s.heap H' locs' → LV G rls' nL r.2.1 → W p l e R s m args below meth c H' locs' (cells + (h_ct r.2.2.2 - h_ct h)) (slots + (h_sl r.2.2.2 - h_sl h)) Q (F0 m r.1 rls' (r.2.2.1.map (tr G)))) →
  W p l e R s m args below meth c H locs cells slots Q (F0 m pc rls (pst.map (tr G)))
