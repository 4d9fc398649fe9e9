/-! what holds between two calls: the class's cells, the reference's cells -/
def CIn (h : PH) (tp : List Int32) (gs : List (List Nat)) (m : Nat) (so : Nat → Int32) (f1 f2 : Int32) (S : Nat) (w : List Nat) (L : List Act) (t : Nat) : Prop := OwS h ∧ CTp h tp ∧ CGr h 2 gs m ∧ CSo h 2 gs.length so ∧ (h_i h 8 7 = f1 ∧ h_i h 8 8 = f2 ∧ h_i h 2 4 = nI S) ∧ CWd h w ∧ CAc h 2 (acL L) ∧ h_i h 2 6 = nI t
def MCo (h : PH) (tp : List Int32) (gs : List (List Nat)) (m : Nat) (so : Nat → Int32) (f1 f2 : Int32) (S : Nat) (L : List Act) : Prop := MdS h ∧ MTp h tp ∧ MGr h gs m ∧ MSo h gs.length so ∧ (h_i h 17 17 = f1 ∧ h_i h 17 18 = f2 ∧ h_i h 17 5 = nI S) ∧ MKp h (snL L)
/-- what the reference keeps of its table, and its two layers -/
def MCa (h : PH) (gs : List (List Nat)) (m : Nat) : Prop := MTz h gs m ∧ (h_i h 17 26 ≠ 0 → ∃ N, CNd h N gs m) ∧ MBz h gs m ∧ LyO h
def Wig (x k : Nat) : Prop := x = 15 ∨ x = 16 ∨ (x = 13 ∧ k ≠ 1) ∨ 63 ≤ x
/-- the class's fixed cells stay, but for some -/
def Ce0 (W : Nat → Nat → Prop) (h h' : PH) : Prop := ∀ x k, x < 17 → ¬ W x k → h_i h' x k = h_i h x k ∧ h_l h' x k = h_l h x k
theorem Ce0.v {W : Nat → Nat → Prop} {h h' : PH} (e : Ce0 W h h') : Fr (fun x k => W x k ∨ 17 ≤ x) (vh h h') h' := vh_fr (fun x k z => e x k (Nat.lt_of_not_le (fun w => z (Or.inr w))) (fun w => z (Or.inl w)))
theorem Fr.ce0 {W : Nat → Nat → Prop} {h h' : PH} (f : Fr W h h') : Ce0 W h h' := fun x k _ hn => ⟨f.i x k hn, f.l x k hn⟩
theorem Gw.ce0 {W : Nat → Nat → Prop} {h h' : PH} (f : Gw W h h') (hc : 63 ≤ h_ct h) : Ce0 W h h' := fun x k hx hn => ⟨f.i (by omega) hn, f.l (by omega) hn⟩
theorem Gq.ce0 {c : Nat} {W : Nat → Nat → Prop} {h h' : PH} (f : Gq c W h h') (hc : 63 ≤ h_ct h) : Ce0 W h h' := fun x k hx hn => ⟨f.i (by omega) hn, f.l (by omega) hn⟩
theorem CIn.same {W : Nat → Nat → Prop} {h h' : PH} {tp : List Int32} {gs : List (List Nat)} {m S t : Nat} {so : Nat → Int32} {f1 f2 : Int32} {w : List Nat} {L : List Act} (e : Ce0 W h h') (hO : OwS h') (hw : ∀ x k, W x k → Wig x k) (c : CIn h tp gs m so f1 f2 S w L t) : CIn h' tp gs m so f1 f2 S w L t := by
  obtain ⟨c1, c2, c3, c4, c5, c6, c7, c8⟩ := c
  have f := e.v
  have no : ∀ x k, x < 17 → ¬ Wig x k → ¬ (W x k ∨ 17 ≤ x) := fun x k hx hn z => z.elim (fun y => hn (hw x k y)) (fun y => by omega)
  have q2 : CTp (vh h h') tp := c2
  have q3 : CGr (vh h h') 2 gs m := c3
  have q4 : CSo (vh h h') 2 gs.length so := c4
  have q6 : CWd (vh h h') w := c6
  have q7 : CAc (vh h h') 2 (acL L) := c7
  refine ⟨hO, q2.fr f (no _ _ (by omega) (by unfold Wig; omega)) (fun k => no _ _ (by omega) (by unfold Wig; omega)), q3.fr f (fun x k z y => no x k (by omega) (by unfold Wig; omega) z), q4.fr' f (fun k => no _ _ (by omega) (by unfold Wig; omega)), ⟨(f.i _ _ (no _ _ (by omega) (by unfold Wig; omega))).trans c5.1, (f.i _ _ (no _ _ (by omega) (by unfold Wig; omega))).trans c5.2.1, (f.i _ _ (no _ _ (by omega) (by unfold Wig; omega))).trans c5.2.2⟩, q6.fr f (fun x k z y => no x k (by omega) (by unfold Wig; omega) z), q7.fr f (fun x k z y => no x k (by unfold Wac at y; omega) (by unfold Wac at y; unfold Wig; omega) z), (f.i _ _ (no _ _ (by omega) (by unfold Wig; omega))).trans c8⟩
theorem CIn.wd {W : Nat → Nat → Prop} {h h' : PH} {tp : List Int32} {gs : List (List Nat)} {m S t : Nat} {so : Nat → Int32} {f1 f2 : Int32} {w w' : List Nat} {L : List Act} (e : Ce0 W h h') (hO : OwS h') (hw : ∀ x k, W x k → Wcd x k ∨ Wig x k) (hw' : CWd h' w') (c : CIn h tp gs m so f1 f2 S w L t) : CIn h' tp gs m so f1 f2 S w' L t := by
  obtain ⟨c1, c2, c3, c4, c5, c6, c7, c8⟩ := c
  have f := e.v
  have no : ∀ x k, x < 17 → ¬ (Wcd x k ∨ Wig x k) → ¬ (W x k ∨ 17 ≤ x) := fun x k hx hn z => z.elim (fun y => hn (hw x k y)) (fun y => by omega)
  have q2 : CTp (vh h h') tp := c2
  have q3 : CGr (vh h h') 2 gs m := c3
  have q4 : CSo (vh h h') 2 gs.length so := c4
  have q7 : CAc (vh h h') 2 (acL L) := c7
  refine ⟨hO, q2.fr f (no _ _ (by omega) (by unfold Wcd Wig; omega)) (fun k => no _ _ (by omega) (by unfold Wcd Wig; omega)), q3.fr f (fun x k z y => no x k (by omega) (by unfold Wcd Wig; omega) z), q4.fr' f (fun k => no _ _ (by omega) (by unfold Wcd Wig; omega)), ⟨(f.i _ _ (no _ _ (by omega) (by unfold Wcd Wig; omega))).trans c5.1, (f.i _ _ (no _ _ (by omega) (by unfold Wcd Wig; omega))).trans c5.2.1, (f.i _ _ (no _ _ (by omega) (by unfold Wcd Wig; omega))).trans c5.2.2⟩, hw', q7.fr f (fun x k z y => no x k (by unfold Wac at y; omega) (by unfold Wac at y; unfold Wcd Wig; omega) z), (f.i _ _ (no _ _ (by omega) (by unfold Wcd Wig; omega))).trans c8⟩
theorem CIn.tape {W : Nat → Nat → Prop} {h h' : PH} {tp tp' : List Int32} {gs : List (List Nat)} {m S t : Nat} {so : Nat → Int32} {f1 f2 : Int32} {w : List Nat} {L : List Act} (f : Fr W h h') (hw : ∀ x k, W x k → Wct x k) (ht : CTp h' tp') (c : CIn h tp gs m so f1 f2 S w L t) : CIn h' tp' gs m so f1 f2 S w L t := by
  obtain ⟨c1, c2, c3, c4, c5, c6, c7, c8⟩ := c
  have no : ∀ x k, ¬ Wct x k → ¬ W x k := fun x k hn z => hn (hw x k z)
  refine ⟨f.ow c1, ht, c3.fr f (fun x k z y => no x k (by unfold Wct; omega) z), c4.fr' f (fun k => no _ _ (by unfold Wct; omega)), ⟨(f.i _ _ (no _ _ (by unfold Wct; omega))).trans c5.1, (f.i _ _ (no _ _ (by unfold Wct; omega))).trans c5.2.1, (f.i _ _ (no _ _ (by unfold Wct; omega))).trans c5.2.2⟩, c6.fr f (fun x k z y => no x k (by unfold Wct; omega) z), c7.fr f (fun x k z y => no x k (by unfold Wac at y; unfold Wct; omega) z), (f.i _ _ (no _ _ (by unfold Wct; omega))).trans c8⟩
/-- other groups, other acts -/
def Wgc (x k : Nat) : Prop := x = 3 ∨ x = 4 ∨ x = 6 ∨ x = 7 ∨ (x = 2 ∧ (k = 3 ∨ k = 5 ∨ k = 6 ∨ k = 9))
theorem CIn.grp {W : Nat → Nat → Prop} {h h' : PH} {tp : List Int32} {gs gs' : List (List Nat)} {m m' S t t' : Nat} {so : Nat → Int32} {f1 f2 : Int32} {w : List Nat} {L L' : List Act} (e : Ce0 W h h') (hO : OwS h') (hw : ∀ x k, W x k → Wgc x k ∨ Wig x k) (hg : CGr h' 2 gs' m') (hl : gs'.length = gs.length) (ha : CAc h' 2 (acL L')) (ht : h_i h' 2 6 = nI t') (c : CIn h tp gs m so f1 f2 S w L t) : CIn h' tp gs' m' so f1 f2 S w L' t' := by
  obtain ⟨c1, c2, c3, c4, c5, c6, c7, c8⟩ := c
  have f := e.v
  have no : ∀ x k, x < 17 → ¬ (Wgc x k ∨ Wig x k) → ¬ (W x k ∨ 17 ≤ x) := fun x k hx hn z => z.elim (fun y => hn (hw x k y)) (fun y => by omega)
  have q2 : CTp (vh h h') tp := c2
  have q4 : CSo (vh h h') 2 gs.length so := c4
  have q6 : CWd (vh h h') w := c6
  refine ⟨hO, q2.fr f (no _ _ (by omega) (by unfold Wgc Wig; omega)) (fun k => no _ _ (by omega) (by unfold Wgc Wig; omega)), hg, by rw [hl]; exact q4.fr' f (fun k => no _ _ (by omega) (by unfold Wgc Wig; omega)), ⟨(f.i _ _ (no _ _ (by omega) (by unfold Wgc Wig; omega))).trans c5.1, (f.i _ _ (no _ _ (by omega) (by unfold Wgc Wig; omega))).trans c5.2.1, (f.i _ _ (no _ _ (by omega) (by unfold Wgc Wig; omega))).trans c5.2.2⟩, q6.fr f (fun x k z y => no x k (by omega) (by unfold Wgc Wig; omega) z), ha, ht⟩
/-- a call of the reference leaves the class's cells alone -/
theorem CIn.md {W : Nat → Nat → Prop} {h h' : PH} {tp : List Int32} {gs : List (List Nat)} {m S t : Nat} {so : Nat → Int32} {f1 f2 : Int32} {w : List Nat} {L : List Act} (f : Fr W h h') (hw : ∀ x k, W x k → 17 ≤ x) (c : CIn h tp gs m so f1 f2 S w L t) : CIn h' tp gs m so f1 f2 S w L t :=
  CIn.same (W := fun _ _ => False) (fun x k hx _ => ⟨f.i _ _ (fun z => by have := hw _ _ z; omega), f.l _ _ (fun z => by have := hw _ _ z; omega)⟩) (f.ow c.1) (fun _ _ z => z.elim) c
/-- the reference's cells stay, but for some -/
def Wcor (x k : Nat) : Prop := x = 21 ∨ (x = 17 ∧ (k = 4 ∨ k = 5 ∨ k = 6 ∨ k = 12 ∨ k = 17 ∨ k = 18 ∨ k = 76)) ∨ x = 18 ∨ x = 19 ∨ x = 20 ∨ x = 62
def Wcac (x k : Nat) : Prop := Wlt x k ∨ x = 44 ∨ x = 45 ∨ (x = 17 ∧ (k = 26 ∨ k = 53 ∨ k = 70 ∨ k = 71)) ∨ x = 57 ∨ (46 ≤ x ∧ x ≤ 50)
theorem MCo.fr {W : Nat → Nat → Prop} {h h' : PH} {tp : List Int32} {gs : List (List Nat)} {m S : Nat} {so : Nat → Int32} {f1 f2 : Int32} {L : List Act} (f : Fr W h h') (hw : ∀ x k, W x k → ¬ Wcor x k) (c : MCo h tp gs m so f1 f2 S L) : MCo h' tp gs m so f1 f2 S L := by
  obtain ⟨c1, c2, c3, c4, c5, c6⟩ := c
  have no : ∀ x k, Wcor x k → ¬ W x k := fun x k a b => hw x k b a
  exact ⟨f.md c1, c2.fr f (no _ _ (by unfold Wcor; omega)) (fun k => no _ _ (by unfold Wcor; omega)), c3.fr f (fun x k z y => no x k (by unfold Wcor; omega) z), c4.fr' f (fun k => no _ _ (by unfold Wcor; omega)), ⟨(f.i _ _ (no _ _ (by unfold Wcor; omega))).trans c5.1, (f.i _ _ (no _ _ (by unfold Wcor; omega))).trans c5.2.1, (f.i _ _ (no _ _ (by unfold Wcor; omega))).trans c5.2.2⟩, c6.fr f (fun x k z y => no x k (by unfold Wcor; omega) z)⟩
theorem MCa.bz {W : Nat → Nat → Prop} {h h' : PH} {gs : List (List Nat)} {m : Nat} (f : Fr W h h') (hw : ∀ x k, W x k → ¬ (x = 57 ∨ (x = 17 ∧ (k = 70 ∨ k = 71)))) (c : MBz h gs m) : MBz h' gs m := fun n n1 n4 z => by
  rw [f.i _ _ (fun y => hw _ _ y (by omega))] at z
  exact (c n n1 n4 z).fr f (fun x k y q => hw x k y (by omega))
theorem MCa.nd {W : Nat → Nat → Prop} {h h' : PH} {gs : List (List Nat)} {m : Nat} (f : Fr W h h') (hw : ∀ x k, W x k → ¬ (x = 44 ∨ x = 45 ∨ (x = 17 ∧ (k = 26 ∨ k = 53)))) (c : h_i h 17 26 ≠ 0 → ∃ N, CNd h N gs m) : h_i h' 17 26 ≠ 0 → ∃ N, CNd h' N gs m := fun z => by
  rw [f.i _ _ (fun y => hw _ _ y (by omega))] at z
  obtain ⟨N, hN⟩ := c z
  exact ⟨N, hN.fr f (fun x k y q => hw x k y (by omega))⟩
theorem MCa.ly {W : Nat → Nat → Prop} {h h' : PH} (f : Fr W h h') (hw : ∀ x k, W x k → ¬ (46 ≤ x ∧ x ≤ 50)) (c : LyO h) : LyO h' := c.fr f (fun x k z => by have := hw x k z; omega)
theorem MCa.fr {W : Nat → Nat → Prop} {h h' : PH} {gs : List (List Nat)} {m : Nat} (ho : okg gs m) (f : Fr W h h') (hw : ∀ x k, W x k → ¬ Wcac x k) (c : MCa h gs m) : MCa h' gs m :=
  ⟨c.1.fr f (fun x k z y => hw x k z (Or.inl y)) ho, MCa.nd f (fun x k z y => hw x k z (by unfold Wcac; omega)) c.2.1, MCa.bz f (fun x k z y => hw x k z (by unfold Wcac; omega)) c.2.2.1, MCa.ly f (fun x k z y => hw x k z (by unfold Wcac; omega)) c.2.2.2⟩
/-- the reference's cells stay over a call of the class -/
theorem MCo.cl {h h' : PH} {tp : List Int32} {gs : List (List Nat)} {m S : Nat} {so : Nat → Int32} {f1 f2 : Int32} {L : List Act} (e : ∀ x k, 17 ≤ x → x < 63 → h_i h' x k = h_i h x k ∧ h_l h' x k = h_l h x k) (hM : MdS h') (c : MCo h tp gs m so f1 f2 S L) : MCo h' tp gs m so f1 f2 S L := by
  have f : Fr (fun x _ => ¬ (17 ≤ x ∧ x < 63)) (vh h h') h' := vh_fr (fun x k z => by
    have := Classical.not_not.mp z
    exact e x k this.1 this.2)
  have q : MCo (vh h h') tp gs m so f1 f2 S L := ⟨hM, c.2.1, c.2.2.1, c.2.2.2.1, c.2.2.2.2.1, c.2.2.2.2.2⟩
  exact q.fr f (fun x k z y => by unfold Wcor at y; omega)
theorem MCa.cl {h h' : PH} {gs : List (List Nat)} {m : Nat} (ho : okg gs m) (e : ∀ x k, 17 ≤ x → x < 63 → h_i h' x k = h_i h x k ∧ h_l h' x k = h_l h x k) (c : MCa h gs m) : MCa h' gs m := by
  have f : Fr (fun x _ => ¬ (17 ≤ x ∧ x < 63)) (vh h h') h' := vh_fr (fun x k z => by
    have := Classical.not_not.mp z
    exact e x k this.1 this.2)
  have q : MCa (vh h h') gs m := c
  exact q.fr ho f (fun x k z y => by unfold Wcac Wlt at y; omega)
theorem MWd.cl {h h' : PH} {w : List Nat} (e : ∀ x k, 17 ≤ x → x < 63 → h_i h' x k = h_i h x k ∧ h_l h' x k = h_l h x k) (c : MWd h w) : MWd h' w := by
  have f : Fr (fun x _ => ¬ (17 ≤ x ∧ x < 63)) (vh h h') h' := vh_fr (fun x k z => by
    have := Classical.not_not.mp z
    exact e x k this.1 this.2)
  have q : MWd (vh h h') w := c
  exact q.fr f (fun x k z y => by omega)
