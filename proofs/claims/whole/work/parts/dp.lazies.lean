/-! all lazily made objects: each holds what it must, and none lies in another's cells -/
def rgn : Nat → Nat
  | 5 => 9
  | 6 => 7
  | 7 => 6
  | 8 => 3
  | 9 => 5
  | 12 => 20
  | _ => 0
def RgA (h : PH) (ad : Nat → Nat) (la f x : Nat) : Prop := ∃ c, h_r h 0 f = some c ∧ ((f = 10 ∧ Wce c ad x) ∨ (f = 11 ∧ Wbc c la x) ∨ ((f = 5 ∨ f = 6 ∨ f = 7 ∨ f = 8 ∨ f = 9 ∨ f = 12) ∧ c ≤ x ∧ x ≤ c + rgn f))
def OkF (h : PH) (gs : List (List Nat)) (m : Nat) (ad : Nat → Nat) (K M E la cap f : Nat) : Prop := (f = 5 → CTrz h gs m) ∧ (f = 6 → CTz h gs m) ∧ (f = 7 → ∀ c, h_r h 0 7 = some c → TwS h c) ∧ (f = 8 → ∀ c, h_r h 0 8 = some c → ReS h c) ∧ (f = 9 → ∀ c, h_r h 0 9 = some c → SpS h c) ∧ (f = 10 → CeOk h gs m ad K M E) ∧ (f = 11 → BoOk h gs m la cap) ∧ (f = 12 → CCu h gs m)
def Lz (h : PH) (gs : List (List Nat)) (m : Nat) (ad : Nat → Nat) (K M E la cap : Nat) : Prop := (∀ f, OkF h gs m ad K M E la cap f) ∧ ∀ f g x, f ≠ g → RgA h ad la f x → ¬ RgA h ad la g x
theorem Lz.o5 {h : PH} {gs : List (List Nat)} {m K M E la cap : Nat} {ad : Nat → Nat} (z : Lz h gs m ad K M E la cap) : CTrz h gs m := (z.1 5).1 rfl
theorem Lz.o6 {h : PH} {gs : List (List Nat)} {m K M E la cap : Nat} {ad : Nat → Nat} (z : Lz h gs m ad K M E la cap) : CTz h gs m := (z.1 6).2.1 rfl
theorem Lz.o7 {h : PH} {gs : List (List Nat)} {m K M E la cap : Nat} {ad : Nat → Nat} (z : Lz h gs m ad K M E la cap) : ∀ c, h_r h 0 7 = some c → TwS h c := (z.1 7).2.2.1 rfl
theorem Lz.o8 {h : PH} {gs : List (List Nat)} {m K M E la cap : Nat} {ad : Nat → Nat} (z : Lz h gs m ad K M E la cap) : ∀ c, h_r h 0 8 = some c → ReS h c := (z.1 8).2.2.2.1 rfl
theorem Lz.o9 {h : PH} {gs : List (List Nat)} {m K M E la cap : Nat} {ad : Nat → Nat} (z : Lz h gs m ad K M E la cap) : ∀ c, h_r h 0 9 = some c → SpS h c := (z.1 9).2.2.2.2.1 rfl
theorem Lz.o10 {h : PH} {gs : List (List Nat)} {m K M E la cap : Nat} {ad : Nat → Nat} (z : Lz h gs m ad K M E la cap) : CeOk h gs m ad K M E := (z.1 10).2.2.2.2.2.1 rfl
theorem Lz.o11 {h : PH} {gs : List (List Nat)} {m K M E la cap : Nat} {ad : Nat → Nat} (z : Lz h gs m ad K M E la cap) : BoOk h gs m la cap := (z.1 11).2.2.2.2.2.2.1 rfl
theorem Lz.o12 {h : PH} {gs : List (List Nat)} {m K M E la cap : Nat} {ad : Nat → Nat} (z : Lz h gs m ad K M E la cap) : CCu h gs m := (z.1 12).2.2.2.2.2.2.2 rfl
theorem Lz.rg {h : PH} {gs : List (List Nat)} {m K M E la cap f x : Nat} {ad : Nat → Nat} (z : Lz h gs m ad K M E la cap) (hx : RgA h ad la f x) : 63 ≤ x ∧ x < h_ct h := by
  obtain ⟨c, hr, (⟨e, w⟩ | ⟨e, w⟩ | ⟨e, w1, w2⟩)⟩ := hx
  · subst e
    have s := (z.o10.2.2 c hr).1
    rcases w with w | ⟨f, f1, f2, w⟩
    · have := s.2.2.2.2.2.2.2.2.2.2
      omega
    · have := s.2.2.2.2.2.2.2.2.2.1.2 f f1 f2
      omega
  · subst e
    have s := (z.o11.2.2 c hr).1
    have s1 := s.2.2.2.2.2
    unfold Wbc at w
    omega
  · rcases e with e | e | e | e | e | e <;> subst e
    · have s := (z.o5 c hr).1.2.2.2.2.2.2.2.2.2.2
      have : rgn 5 = 9 := rfl
      omega
    · have s := (z.o6 c hr).1.2.2.2.2.2.2.2.2
      have : rgn 6 = 7 := rfl
      omega
    · have s := (z.o7 c hr).2.2.2.2.2.2.2
      have : rgn 7 = 6 := rfl
      omega
    · have s := (z.o8 c hr).2.2.2.2
      have : rgn 8 = 3 := rfl
      omega
    · have s := (z.o9 c hr).2.2.2.2.2.2
      have : rgn 9 = 5 := rfl
      omega
    · have s := (z.o12 c hr).1.2.2.2.2.2.2.2.2.2
      have : rgn 12 = 20 := rfl
      omega
theorem RgA.to {h h' : PH} {ad ad' : Nat → Nat} {la la' f x : Nat} (hr : h_r h' 0 f = h_r h 0 f) (h10 : f = 10 → ad' = ad) (h11 : f = 11 → la' = la) : RgA h' ad' la' f x ↔ RgA h ad la f x := by
  unfold RgA
  rw [hr]
  constructor
  · rintro ⟨c, e, (⟨q, w⟩ | ⟨q, w⟩ | w)⟩
    · rw [h10 q] at w
      exact ⟨c, e, Or.inl ⟨q, w⟩⟩
    · rw [h11 q] at w
      exact ⟨c, e, Or.inr (Or.inl ⟨q, w⟩)⟩
    · exact ⟨c, e, Or.inr (Or.inr w)⟩
  · rintro ⟨c, e, (⟨q, w⟩ | ⟨q, w⟩ | w)⟩
    · rw [← h10 q] at w
      exact ⟨c, e, Or.inl ⟨q, w⟩⟩
    · rw [← h11 q] at w
      exact ⟨c, e, Or.inr (Or.inl ⟨q, w⟩)⟩
    · exact ⟨c, e, Or.inr (Or.inr w)⟩
/-- the cells of those that a call leaves alone -/
def RgU (T : Nat → Prop) (h : PH) (ad : Nat → Nat) (la x : Nat) : Prop := ∃ f, ¬ T f ∧ RgA h ad la f x
theorem OkF.kp {T : Nat → Prop} {h h' : PH} {gs : List (List Nat)} {m K M E la cap f : Nat} {ad : Nat → Nat} (hf : ¬ T f) (Kq : Kp (RgU T h ad la) h h') (hr : h_r h' 0 f = h_r h 0 f) (h2 : h_i h' 2 6 = h_i h 2 6) (z : OkF h gs m ad K M E la cap f) : OkF h' gs m ad K M E la cap f := by
  obtain ⟨z5, z6, z7, z8, z9, z10, z11, z12⟩ := z
  have R : ∀ c x, h_r h 0 f = some c → (f = 5 ∨ f = 6 ∨ f = 7 ∨ f = 8 ∨ f = 9 ∨ f = 12) → c ≤ x → x ≤ c + rgn f → RgU T h ad la x := fun c x e q a b => ⟨f, hf, c, e, Or.inr (Or.inr ⟨q, a, b⟩)⟩
  refine ⟨fun e => ?_, fun e => ?_, fun e => ?_, fun e => ?_, fun e => ?_, fun e => ?_, fun e => ?_, fun e => ?_⟩ <;> subst e
  · exact (z5 rfl).kp Kq (fun c e x a b => R c x e (by omega) a b) hr h2
  · exact (z6 rfl).kp Kq (fun c e x a b => R c x e (by omega) a b) hr h2
  · intro c e
    rw [hr] at e
    exact TwS.kp Kq (fun x a b => R c x e (by omega) a b) (z7 rfl c e)
  · intro c e
    rw [hr] at e
    exact ReS.kp Kq (fun x a b => R c x e (by omega) a b) (z8 rfl c e)
  · intro c e
    rw [hr] at e
    exact SpS.kp Kq (fun x a b => R c x e (by omega) a b) (z9 rfl c e)
  · exact (z10 rfl).kp Kq (fun c e x w => ⟨10, hf, c, e, Or.inl ⟨rfl, w⟩⟩) hr h2
  · exact (z11 rfl).kp Kq (fun c e x w => ⟨11, hf, c, e, Or.inr (Or.inl ⟨rfl, w⟩)⟩) hr h2
  · exact (z12 rfl).kp Kq (fun c e x a b => R c x e (by omega) a b) hr h2
theorem CCu.sb {h : PH} {gs : List (List Nat)} {m t : Nat} (h2 : h_i h 2 6 = nI t) (hz : CCu h gs m) : ∀ c, h_r h 0 12 = some c → CuS h c ∧ ∀ w, w < 3 → SB (h_i h (c + 16) w) t := fun c e => ⟨(hz c e).1, fun w hw => ((hz c e).2 w hw).2 t h2⟩
theorem OkF.new {T : Nat → Prop} {h h' : PH} {gs gs' : List (List Nat)} {m m' K M E la cap f t : Nat} {ad : Nat → Nat} (hf : ¬ T f) (Kq : Kp (RgU T h ad la) h h') (hr : h_r h' 0 f = h_r h 0 f) (ht : t + 1 < 2 ^ 31) (h2 : h_i h 2 6 = nI t) (h2' : h_i h' 2 6 = nI (t + 1)) (z : OkF h gs m ad K M E la cap f) : OkF h' gs' m' ad K M E la cap f := by
  obtain ⟨z5, z6, z7, z8, z9, z10, z11, z12⟩ := z
  have R : ∀ c x, h_r h 0 f = some c → (f = 5 ∨ f = 6 ∨ f = 7 ∨ f = 8 ∨ f = 9 ∨ f = 12) → c ≤ x → x ≤ c + rgn f → RgU T h ad la x := fun c x e q a b => ⟨f, hf, c, e, Or.inr (Or.inr ⟨q, a, b⟩)⟩
  refine ⟨fun e => ?_, fun e => ?_, fun e => ?_, fun e => ?_, fun e => ?_, fun e => ?_, fun e => ?_, fun e => ?_⟩ <;> subst e
  · exact (z5 rfl).new Kq (fun c e x a b => R c x e (by omega) a b) hr ht h2 h2'
  · exact (z6 rfl).new Kq (fun c e x a b => R c x e (by omega) a b) hr ht h2 h2'
  · intro c e
    rw [hr] at e
    exact TwS.kp Kq (fun x a b => R c x e (by omega) a b) (z7 rfl c e)
  · intro c e
    rw [hr] at e
    exact ReS.kp Kq (fun x a b => R c x e (by omega) a b) (z8 rfl c e)
  · intro c e
    rw [hr] at e
    exact SpS.kp Kq (fun x a b => R c x e (by omega) a b) (z9 rfl c e)
  · exact (z10 rfl).new Kq (fun c e x w => ⟨10, hf, c, e, Or.inl ⟨rfl, w⟩⟩) hr ht h2 h2'
  · exact (z11 rfl).new Kq (fun c e x w => ⟨11, hf, c, e, Or.inr (Or.inl ⟨rfl, w⟩)⟩) hr ht h2 h2'
  · exact CCu.new Kq (fun c e x a b => R c x e (by omega) a b) hr ht h2' ((z12 rfl).sb h2)
/-- the ranges after a call that touches only some of them -/
theorem rg_step {T : Nat → Prop} {h h' : PH} {gs : List (List Nat)} {m K M E la cap la' : Nat} {ad ad' : Nat → Nat} (z : Lz h gs m ad K M E la cap) (hr : ∀ f, ¬ T f → h_r h' 0 f = h_r h 0 f) (h10 : ¬ T 10 → ad' = ad) (h11 : ¬ T 11 → la' = la) (hn : ∀ f x, T f → RgA h' ad' la' f x → RgA h ad la f x ∨ h_ct h ≤ x) (hTT : ∀ f g x, T f → T g → f ≠ g → RgA h' ad' la' f x → ¬ RgA h' ad' la' g x) (f g x : Nat) (hfg : f ≠ g) (a : RgA h' ad' la' f x) : ¬ RgA h' ad' la' g x := fun b => by
  have to : ∀ f, ¬ T f → RgA h' ad' la' f x → RgA h ad la f x := fun f hf w => (RgA.to (hr f hf) (fun e => h10 (by rw [← e]; exact hf)) (fun e => h11 (by rw [← e]; exact hf))).mp w
  by_cases tf : T f
  · by_cases tg : T g
    · exact hTT f g x tf tg hfg a b
    · have b' := to g tg b
      rcases hn f x tf a with w | w
      · exact z.2 f g x hfg w b'
      · have := z.rg b'
        omega
  · have a' := to f tf a
    by_cases tg : T g
    · rcases hn g x tg b with w | w
      · exact z.2 f g x hfg a' w
      · have := z.rg a'
        omega
    · exact z.2 f g x hfg a' (to g tg b)
theorem Lz.step {T : Nat → Prop} {h h' : PH} {gs : List (List Nat)} {m K M E la cap K' M' E' la' cap' : Nat} {ad ad' : Nat → Nat} (z : Lz h gs m ad K M E la cap) (Kq : Kp (RgU T h ad la) h h') (hr : ∀ f, ¬ T f → h_r h' 0 f = h_r h 0 f) (h2 : h_i h' 2 6 = h_i h 2 6) (h10 : T 10 ∨ (ad' = ad ∧ K' = K ∧ M' = M ∧ E' = E)) (h11 : T 11 ∨ (la' = la ∧ cap' = cap)) (hok : ∀ f, T f → OkF h' gs m ad' K' M' E' la' cap' f) (hn : ∀ f x, T f → RgA h' ad' la' f x → RgA h ad la f x ∨ h_ct h ≤ x) (hTT : ∀ f g x, T f → T g → f ≠ g → RgA h' ad' la' f x → ¬ RgA h' ad' la' g x) : Lz h' gs m ad' K' M' E' la' cap' := by
  refine ⟨fun f => ?_, rg_step z hr (fun w => (h10.resolve_left w).1) (fun w => (h11.resolve_left w).1) hn hTT⟩
  by_cases tf : T f
  · exact hok f tf
  · have o := (z.1 f).kp tf Kq (hr f tf) h2
    obtain ⟨z5, z6, z7, z8, z9, z10, z11, z12⟩ := o
    refine ⟨z5, z6, z7, z8, z9, fun e => ?_, fun e => ?_, z12⟩
    · obtain ⟨e1, e2, e3, e4⟩ := h10.resolve_left (by rw [← e]; exact tf)
      rw [e1, e2, e3, e4]
      exact z10 e
    · obtain ⟨e1, e2⟩ := h11.resolve_left (by rw [← e]; exact tf)
      rw [e1, e2]
      exact z11 e
theorem Lz.new {T : Nat → Prop} {h h' : PH} {gs gs' : List (List Nat)} {m m' K M E la cap t : Nat} {ad : Nat → Nat} (z : Lz h gs m ad K M E la cap) (Kq : Kp (RgU T h ad la) h h') (hr : ∀ f, ¬ T f → h_r h' 0 f = h_r h 0 f) (ht : t + 1 < 2 ^ 31) (h2 : h_i h 2 6 = nI t) (h2' : h_i h' 2 6 = nI (t + 1)) (hok : ∀ f, T f → OkF h' gs' m' ad K M E la cap f) (hn : ∀ f x, T f → RgA h' ad la f x → RgA h ad la f x ∨ h_ct h ≤ x) (hTT : ∀ f g x, T f → T g → f ≠ g → RgA h' ad la f x → ¬ RgA h' ad la g x) : Lz h' gs' m' ad K M E la cap := by
  refine ⟨fun f => ?_, rg_step z hr (fun _ => rfl) (fun _ => rfl) hn hTT⟩
  by_cases tf : T f
  · exact hok f tf
  · exact (z.1 f).new tf Kq (hr f tf) ht h2 h2'
/-- a call that leaves them all alone -/
theorem Lz.fr {W : Nat → Nat → Prop} {h h' : PH} {gs : List (List Nat)} {m K M E la cap : Nat} {ad : Nat → Nat} (hf : Fr W h h') (hw : ∀ x k, W x k → x < 63 ∧ ¬ (x = 2 ∧ k = 6)) (z : Lz h gs m ad K M E la cap) : Lz h' gs m ad K M E la cap :=
  Lz.step (T := fun _ => False) z ⟨Nat.le_of_eq hf.2.2.1.symm, fun x hx => by
    obtain ⟨f, _, hx⟩ := hx
    have := z.rg hx
    exact ⟨by rw [hf.1], fun k => ⟨by rw [hf.2.1], hf.i _ _ (fun w => by have := (hw _ _ w).1; omega), hf.l _ _ (fun w => by have := (hw _ _ w).1; omega)⟩⟩⟩ (fun _ _ => by rw [hf.2.1]) (hf.i _ _ (fun w => (hw _ _ w).2 ⟨rfl, rfl⟩)) (Or.inr ⟨rfl, rfl, rfl, rfl⟩) (Or.inr ⟨rfl, rfl⟩) (fun _ w => w.elim) (fun _ _ w => w.elim) (fun _ _ _ w => w.elim)
theorem Lz.frn {W : Nat → Nat → Prop} {h h' : PH} {gs gs' : List (List Nat)} {m m' K M E la cap t : Nat} {ad : Nat → Nat} (hf : Fr W h h') (hw : ∀ x k, W x k → x < 63) (ht : t + 1 < 2 ^ 31) (h2 : h_i h 2 6 = nI t) (h2' : h_i h' 2 6 = nI (t + 1)) (z : Lz h gs m ad K M E la cap) : Lz h' gs' m' ad K M E la cap :=
  Lz.new (T := fun _ => False) z ⟨Nat.le_of_eq hf.2.2.1.symm, fun x hx => by
    obtain ⟨f, _, hx⟩ := hx
    have := z.rg hx
    exact ⟨by rw [hf.1], fun k => ⟨by rw [hf.2.1], hf.i _ _ (fun w => by have := hw _ _ w; omega), hf.l _ _ (fun w => by have := hw _ _ w; omega)⟩⟩⟩ (fun _ _ => by rw [hf.2.1]) ht h2 h2' (fun _ w => w.elim) (fun _ _ w => w.elim) (fun _ _ _ w => w.elim)
