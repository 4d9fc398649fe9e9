/-! words on the class's side: no more than 30604 keys; frames of what grows; arrays copied longer -/
def dlL : Nat → List Nat
  | 0 => [0]
  | j + 1 => (dlL j).flatMap (fun s => [s, s + 4 ^ j, s + 2 * 4 ^ j])
def dlT (j : Nat) : List Nat := (dlL j).flatMap (fun s => [s + 4 ^ j, s + 2 * 4 ^ j])
theorem dlL_mem {f : Nat → Nat} : ∀ j, (∀ d, d < j → f d ≤ 2) → sm (fun d => f d * 4 ^ d) j ∈ dlL j
  | 0, _ => List.mem_singleton.mpr rfl
  | j + 1, h => by
    have ih := dlL_mem (f := f) j (fun d hd => h d (by omega))
    have h2 := h j (Nat.lt_succ_self j)
    refine List.mem_flatMap.mpr ⟨_, ih, ?_⟩
    show sm (fun d => f d * 4 ^ d) j + f j * 4 ^ j ∈ _
    rcases (show f j = 0 ∨ f j = 1 ∨ f j = 2 by omega) with e | e | e <;> rw [e]
    · rw [Nat.zero_mul, Nat.add_zero]
      exact List.mem_cons_self ..
    · rw [Nat.one_mul]
      exact List.mem_cons_of_mem _ (List.mem_cons_self ..)
    · exact List.mem_cons_of_mem _ (List.mem_cons_of_mem _ (List.mem_cons_self ..))
theorem dlT_mem {f : Nat → Nat} {j : Nat} (h : ∀ d, d < j → f d ≤ 2) (h1 : f j ≠ 0) (h2 : f j ≤ 2) : sm (fun d => f d * 4 ^ d) (j + 1) ∈ dlT j := by
  refine List.mem_flatMap.mpr ⟨_, dlL_mem j h, ?_⟩
  show sm (fun d => f d * 4 ^ d) j + f j * 4 ^ j ∈ _
  rcases (show f j = 1 ∨ f j = 2 by omega) with e | e <;> rw [e]
  · rw [Nat.one_mul]
    exact List.mem_cons_self ..
  · exact List.mem_cons_of_mem _ (List.mem_cons_self ..)
theorem sm_tail {f : Nat → Nat} {a : Nat} : ∀ n, a ≤ n → (∀ d, a ≤ d → d < n → f d = 0) → sm f n = sm f a
  | 0, h, _ => by rw [show a = 0 by omega]
  | n + 1, h, hz => by
    by_cases y : a = n + 1
    · rw [y]
    · show sm f n + f n = _
      rw [hz n (by omega) (Nat.lt_succ_self n), Nat.add_zero]
      exact sm_tail n (by omega) (fun d a1 a2 => hz d a1 (by omega))
theorem dpX_top {gs : List (List Nat)} {m : Nat} {v : List Nat} : ∀ n, (∀ d, (dpX gs m v n).length < d → d ≤ n → dg gs m v d = 0) ∧ (dpX gs m v n ≠ [] → dg gs m v (dpX gs m v n).length ≠ 0) ∧ (dpX gs m v n).length ≤ n
  | 0 => ⟨fun d a b => absurd a (by omega), fun z => absurd rfl z, Nat.le_refl _⟩
  | n + 1 => by
    obtain ⟨a, b, c⟩ := dpX_top (gs := gs) (m := m) (v := v) n
    by_cases y : dg gs m v (n + 1) ≠ 0
    · have e : dpX gs m v (n + 1) = lsD v (n + 1) := iteL_t y
      have l : (lsD v (n + 1)).length = n + 1 := lsD_len (dg_pos_le y)
      rw [e, l]
      exact ⟨fun d a b => by omega, fun _ => y, Nat.le_refl _⟩
    · have e : dpX gs m v (n + 1) = dpX gs m v n := iteL_f y
      rw [e]
      refine ⟨fun d h1 h2 => ?_, b, by omega⟩
      by_cases z : d = n + 1
      · rw [z]
        exact Classical.byContradiction y
      · exact a d h1 (by omega)
def cand (N gs : List (List Nat)) : List Nat := (List.range 14).flatMap (fun g => (List.range 7).flatMap (fun j => (dlT j).map (fun s => nix N ((gs.getD g []).take j) * 16384 + s)))
theorem cand_len (N gs : List (List Nat)) : (cand N gs).length = 30604 := by
  unfold cand
  have e : ∀ g : Nat, ((List.range 7).flatMap (fun j => (dlT j).map (fun s => nix N ((gs.getD g []).take j) * 16384 + s))).length = 2186 := fun g => by
    rw [List.length_flatMap]
    have e2 : (List.map (fun j => ((dlT j).map (fun s => nix N ((gs.getD g []).take j) * 16384 + s)).length) (List.range 7)) = List.map (fun j => (dlT j).length) (List.range 7) := List.map_congr_left (fun j _ => List.length_map ..)
    rw [e2]
    decide +kernel
  rw [List.length_flatMap, List.map_congr_left (fun g _ => e g)]
  decide +kernel
theorem cand_mem {N gs : List (List Nat)} {m : Nat} {v : List Nat} (ho : okg gs m) (hN : okN N) (h : kyW N gs m v ≠ 0) : kyW N gs m v ∈ cand N gs := by
  obtain ⟨a, b, c⟩ := dpX_top (gs := gs) (m := m) (v := v) 6
  have hX : ∃ g, g < 14 ∧ dpX gs m v 6 = (gs.getD g []).take (dpX gs m v 6).length := by
    rcases dpX_in (gs := gs) (m := m) (v := v) ho 6 with e | ⟨l, ⟨k, gk, _⟩, j, hj, e⟩
    · exact ⟨0, by omega, by rw [e]; rfl⟩
    · refine ⟨k, (ho.at gk).2.2, ?_⟩
      rw [gD gk]
      have ll := congrArg List.length e
      rw [List.length_take] at ll
      rw [show (dpX gs m v 6).length = j by omega]
      exact e
  obtain ⟨g, g1, g2⟩ := hX
  have top : dg gs m v (dpX gs m v 6).length ≠ 0 := by
    by_cases y : dpX gs m v 6 = []
    · rw [y]
      intro z
      refine h (kyW_n0 hN (fun d hd => ?_))
      by_cases q : d = 0
      · rw [q]
        exact z
      · exact a d (by rw [y]; show 0 < d; omega) (by omega)
    · exact b y
  have es : dgs gs m v = sm (fun d => dg gs m v d * 4 ^ d) ((dpX gs m v 6).length + 1) := sm_tail 7 (by omega) (fun d h1 h2 => by
    show dg gs m v d * 4 ^ d = 0
    rw [a d (by omega) (by omega), Nat.zero_mul])
  refine List.mem_flatMap.mpr ⟨g, List.mem_range.mpr g1, List.mem_flatMap.mpr ⟨(dpX gs m v 6).length, List.mem_range.mpr (by omega), List.mem_map.mpr ⟨dgs gs m v, ?_, ?_⟩⟩⟩
  · rw [es]
    exact dlT_mem (fun d _ => dg_le v d) top (dg_le v _)
  · unfold kyW
    rw [← g2]
theorem keys_le {N gs : List (List Nat)} {m : Nat} {V : List (List Nat)} (ho : okg gs m) (hN : okN N) (hn : (V.map (kyW N gs m)).Nodup) (h0 : ∀ v ∈ V, kyW N gs m v ≠ 0) : V.length ≤ 30604 := by
  have h1 : V.map (kyW N gs m) ⊆ cand N gs := fun x y => by
    obtain ⟨q, hq, e⟩ := List.mem_map.mp y
    rw [← e]
    exact cand_mem ho hN (h0 q hq)
  have h2 := hn.length_le_of_subset h1
  rw [cand_len, List.length_map] at h2
  exact h2
/-- the frame of what may grow: the references of one object change, cells are made -/
def Ge (c : Nat) (W : Nat → Nat → Prop) (h h' : PH) : Prop := h_sc h' = h_sc h ∧ h_ct h ≤ h_ct h' ∧ (∀ x, x < h_ct h → h_sh h' x = h_sh h x) ∧ (∀ x k, x < h_ct h → x ≠ c → h_r h' x k = h_r h x k) ∧ ∀ x k, x < h_ct h → ¬ W x k → h_i h' x k = h_i h x k ∧ h_l h' x k = h_l h x k
theorem Ge.rf (c : Nat) (W : Nat → Nat → Prop) (h : PH) : Ge c W h h := ⟨rfl, Nat.le_refl _, fun _ _ => rfl, fun _ _ _ _ => rfl, fun _ _ _ _ => ⟨rfl, rfl⟩⟩
theorem Ge.tr {c : Nat} {W W1 : Nat → Nat → Prop} {h h1 h2 : PH} (a : Ge c W h h1) (b : Ge c W1 h1 h2) (hw : ∀ x k, x < h_ct h → W1 x k → W x k) : Ge c W h h2 := by
  obtain ⟨a1, a2, a3, a4, a5⟩ := a
  obtain ⟨b1, b2, b3, b4, b5⟩ := b
  refine ⟨b1.trans a1, by omega, fun x hx => (b3 x (by omega)).trans (a3 x hx), fun x k hx hc => (b4 x k (by omega) hc).trans (a4 x k hx hc), fun x k hx hn => ?_⟩
  have q1 := a5 x k hx hn
  have q2 := b5 x k (by omega) (fun z => hn (hw x k hx z))
  exact ⟨q2.1.trans q1.1, q2.2.trans q1.2⟩
theorem Ge.up {c : Nat} {W W' : Nat → Nat → Prop} {h h' : PH} (a : Ge c W h h') (hw : ∀ x k, W x k → W' x k) : Ge c W' h h' := ⟨a.1, a.2.1, a.2.2.1, a.2.2.2.1, fun x k hx hn => a.2.2.2.2 x k hx (fun z => hn (hw x k z))⟩
theorem Fr.ge {c : Nat} {W : Nat → Nat → Prop} {h h' : PH} (a : Fr W h h') : Ge c W h h' := by
  obtain ⟨h1, h2, h3, h4, h5, h6⟩ := a
  exact ⟨h5, by rw [h3]; exact Nat.le_refl _, fun x _ => by rw [h1], fun x k _ _ => by rw [h2], fun x k _ hn => h6 x k hn⟩
theorem Ge.i {c : Nat} {W : Nat → Nat → Prop} {h h' : PH} (a : Ge c W h h') {x k : Nat} (hx : x < h_ct h) (hn : ¬ W x k) : h_i h' x k = h_i h x k := (a.2.2.2.2 x k hx hn).1
theorem Ge.l {c : Nat} {W : Nat → Nat → Prop} {h h' : PH} (a : Ge c W h h') {x k : Nat} (hx : x < h_ct h) (hn : ¬ W x k) : h_l h' x k = h_l h x k := (a.2.2.2.2 x k hx hn).2
theorem Ge.new (c : Nat) (W : Nat → Nat → Prop) (h : PH) (q : Nat × Nat) (n : Nat) : Ge c W h (h_new h q n) := by
  refine ⟨rfl, by show h_ct h ≤ h_ct h + 1; omega, fun x hx => sh_new_lt hx, fun x k hx _ => ?_, fun x k hx _ => ?_⟩
  · rw [(Same.new hx).2.2.2]
  · exact ⟨by rw [(Same.new hx).2.1], by rw [(Same.new hx).2.2.1]⟩
theorem Ge.wr {c k : Nat} {W : Nat → Nat → Prop} {h : PH} {v : Option Nat} : Ge c W h (w_r h c k v) := ⟨rfl, Nat.le_refl _, fun _ _ => rfl, fun x k' _ hx => by rw [h_r_wr, if_neg (fun z => hx z.1)], fun _ _ _ _ => ⟨rfl, rfl⟩⟩
/-- cells are made, all others are as before -/
def Gn (h h' : PH) : Prop := h_sc h' = h_sc h ∧ h_ct h ≤ h_ct h' ∧ ∀ x, x < h_ct h → Same h h' x
theorem Gn.ge {c : Nat} {W : Nat → Nat → Prop} {h h' : PH} (a : Gn h h') : Ge c W h h' := ⟨a.1, a.2.1, fun x hx => (a.2.2 x hx).1, fun x k hx _ => by rw [(a.2.2 x hx).2.2.2], fun x k hx _ => ⟨by rw [(a.2.2 x hx).2.1], by rw [(a.2.2 x hx).2.2.1]⟩⟩
theorem Gn.r {h h' : PH} {x k : Nat} (a : Gn h h') (hx : x < h_ct h) : h_r h' x k = h_r h x k := by rw [(a.2.2 x hx).2.2.2]
theorem Gn.i {h h' : PH} {x k : Nat} (a : Gn h h') (hx : x < h_ct h) : h_i h' x k = h_i h x k := by rw [(a.2.2 x hx).2.1]
theorem Gn.new (h : PH) (q : Nat × Nat) (n : Nat) : Gn h (h_new h q n) := ⟨rfl, by show h_ct h ≤ h_ct h + 1; omega, fun _ hx => Same.new hx⟩
theorem Gn.tr {h h1 h2 : PH} (a : Gn h h1) (b : Gn h1 h2) : Gn h h2 := ⟨b.1.trans a.1, by have := a.2.1; have := b.2.1; omega, fun x hx => (a.2.2 x hx).tr (b.2.2 x (by have := a.2.1; omega))⟩
theorem same_wri {h : PH} {c x : Nat} {g : Nat → Int32} (hx : x ≠ c) : Same h (w_ri h c g) x := ⟨rfl, upr_ne _ _ hx, rfl, rfl⟩
theorem Gn.copy {h : PH} {q : Nat × Nat} {n : Nat} {g : Nat → Int32} : Gn h (w_ri (h_new h q n) (h_ct h) g) := ⟨rfl, by show h_ct h ≤ h_ct h + 1; omega, fun _ hx => (Same.new hx).tr (same_wri (by omega))⟩
theorem cpy0 (f g : Nat → Int32) {n k : Nat} (hk : k < n) : va_cpy f g 0 0 n k = f k := by
  unfold va_cpy
  rw [if_pos ⟨by omega, by omega⟩, show 0 + (k - 0) = k by omega]
theorem ja_copyI {d : Nat} {h : PH} {Q : PQ} {r n n' : Nat} (hs : h_sh h r = some (1, n)) (hr : r < h_ct h) (hn : n < n') (hn' : n' ≤ 60000000) (k : ∀ h', Gn h h' → h_sh h' (h_ct h) = some (1, n') → (∀ i, i < n → h_i h' (h_ct h) i = h_i h r i) → h_ct h' = h_ct h + 1 → h_sl h' = h_sl h + n' → Q (some (.ref (h_ct h))) h') : wpm (d + 1) 285 [.ref r, .int (nI n')] h Q := by
  refine wpm_in P_Ja_copyI rfl (by decide) (by show ¬ 3 < 2; decide) ?_
  have en : (Int32.ofNat n) = nI n := rfl
  refine B_Ja_copyI_0 hs (fun _ => ?_) (fun z => ?_)
  · have cl : (nI n').toNatClampNeg = n' := nI_clamp (by omega)
    have mn : (if nI n' < Int32.ofNat n then nI n' else Int32.ofNat n) = nI n := if_neg (fun z => by
      rw [en, nI_ltI (by omega) (by omega)] at z
      omega)
    have cn : (nI n).toNatClampNeg = n := nI_clamp (by omega)
    have c0 : (0 : Int32).toNatClampNeg = 0 := rfl
    have key : wpx d P_Ja_copyI 31 [.ref r, .int (nI n'), .ref (h_ct h)] [] (w_ri (h_new h (1, n') n') (h_ct h) (va_cpy (h_i (h_new h (1, n') n') r) (h_i (h_new h (1, n') n') (h_ct h)) 0 0 n)) Q := by
      refine B_Ja_copyI_31 (k _ Gn.copy ?_ (fun i hi => ?_) rfl rfl)
      · exact sh_new_eq h (1, n') n'
      · rw [wri_eq, cpy0 _ _ hi, (Same.new hr).2.1]
    refine B_Ja_copyI_14 (n0 := n) (n1 := n') ?_ ?_ ?_ ?_ ?_
    · rw [cl]
      exact fun z => z.elim (fun q => nI_lt0 (by omega) q) (fun q => by omega)
    · rw [sh_new_lt hr]
      exact hs
    · rw [cl]
      exact sh_new_eq _ _ _
    · rw [mn, cn, c0]
      exact ⟨by decide, by decide, nI_lt0 (by omega), by omega, by omega⟩
    · rw [cl, mn, cn]
      exact key
  · rw [en, nI_eq (by omega) (by omega)] at z
    omega
theorem fit28 : ∀ x, x < 28 → fits .byte (.int (nI x)) = true := by decide
theorem ja_copyB {d : Nat} {h : PH} {Q : PQ} {r n n' : Nat} (hs : h_sh h r = some (2, n)) (hr : r < h_ct h) (hn : n < n') (hn' : n' ≤ 60000000) (hx : ∀ i, i < n → ∃ x, x < 28 ∧ h_i h r i = nI x) (k : ∀ h', Gn h h' → h_sh h' (h_ct h) = some (2, n') → (∀ i, i < n → h_i h' (h_ct h) i = h_i h r i) → (∀ i, n ≤ i → h_i h' (h_ct h) i = 0) → h_ct h' = h_ct h + 1 → h_sl h' = h_sl h + n' → Q (some (.ref (h_ct h))) h') : wpm (d + 1) 284 [.ref r, .int (nI n')] h Q := by
  refine wpm_in P_Ja_copyB rfl (by decide) (by show ¬ 3 < 2; decide) ?_
  have en : (Int32.ofNat n) = nI n := rfl
  refine B_Ja_copyB_0 hs (fun _ => ?_) (fun z => ?_)
  · have cl : (nI n').toNatClampNeg = n' := nI_clamp (by omega)
    have mn : (if nI n' < Int32.ofNat n then nI n' else Int32.ofNat n) = nI n := if_neg (fun z => by
      rw [en, nI_ltI (by omega) (by omega)] at z
      omega)
    have cn : (nI n).toNatClampNeg = n := nI_clamp (by omega)
    have c0 : (0 : Int32).toNatClampNeg = 0 := rfl
    have key : wpx d P_Ja_copyB 31 [.ref r, .int (nI n'), .ref (h_ct h)] [] (w_ri (h_new h (2, n') n') (h_ct h) (va_cpy (h_i (h_new h (2, n') n') r) (h_i (h_new h (2, n') n') (h_ct h)) 0 0 n)) Q := by
      refine B_Ja_copyB_31 (k _ Gn.copy ?_ (fun i hi => ?_) (fun i hi => ?_) rfl rfl)
      · exact sh_new_eq h (2, n') n'
      · rw [wri_eq, cpy0 _ _ hi, (Same.new hr).2.1]
      · rw [wri_eq]
        unfold va_cpy
        rw [if_neg (by omega)]
        exact i_new_eq h (2, n') n' i
    refine B_Ja_copyB_14 (n0 := n) (n1 := n') ?_ ?_ ?_ ?_ ?_
    · rw [cl]
      exact fun z => z.elim (fun q => nI_lt0 (by omega) q) (fun q => by omega)
    · rw [sh_new_lt hr]
      exact hs
    · rw [cl]
      exact sh_new_eq _ _ _
    · rw [mn, cn, c0, cl]
      refine ⟨by decide, by decide, nI_lt0 (by omega), by omega, by omega, List.all_eq_true.mpr (fun j hj => ?_)⟩
      obtain ⟨x, x1, x2⟩ := hx j (List.mem_range.mp hj)
      rw [Nat.zero_add, (Same.new hr).2.1, x2]
      exact fit28 x x1
    · rw [cl, mn, cn]
      exact key
  · rw [en, nI_eq (by omega) (by omega)] at z
    omega
/-- the census: its arrays may stand anywhere -/
def adI (c ct : Nat) (ad : Nat → Nat) : Prop := (∀ f f', f < 9 → f' < 9 → f ≠ 4 → f' ≠ 4 → ad f = ad f' → f = f') ∧ ∀ f, f < 9 → f ≠ 4 → ad f ≠ c ∧ 63 ≤ ad f ∧ ad f < ct
def CeS (h : PH) (c : Nat) (ad : Nat → Nat) (K M E : Nat) : Prop := h_sh h c = some (0, 1) ∧ (h_r h c 0 = some (ad 0) ∧ h_sh h (ad 0) = some (1, K)) ∧ (h_r h c 1 = some (ad 1) ∧ h_sh h (ad 1) = some (1, K)) ∧ (h_r h c 2 = some (ad 2) ∧ h_sh h (ad 2) = some (4, 11 * K)) ∧ (h_r h c 3 = some (ad 3) ∧ h_sh h (ad 3) = some (4, 11 * K)) ∧ (h_r h c 5 = some (ad 5) ∧ h_sh h (ad 5) = some (1, M)) ∧ (h_r h c 6 = some (ad 6) ∧ h_sh h (ad 6) = some (1, K + 1)) ∧ (h_r h c 7 = some (ad 7) ∧ h_sh h (ad 7) = some (2, E)) ∧ (h_r h c 8 = some (ad 8) ∧ h_sh h (ad 8) = some (1, E)) ∧ adI c (h_ct h) ad ∧ 63 ≤ c ∧ c < h_ct h
def Wce (c : Nat) (ad : Nat → Nat) (x : Nat) : Prop := x = c ∨ ∃ f, f < 9 ∧ f ≠ 4 ∧ x = ad f
theorem CeS.fr {W : Nat → Nat → Prop} {h h' : PH} {c K M E : Nat} {ad : Nat → Nat} (hf : Fr W h h') (hr : CeS h c ad K M E) : CeS h' c ad K M E := by
  unfold CeS
  rw [hf.1, hf.2.1, hf.2.2.1]
  exact hr
/-- what the census costs: cells and slots -/
def Acc (h h' : PH) (K M E K' M' E' : Nat) : Prop := 8 * h_ct h' + (K + M + E) ≤ 8 * h_ct h + (K' + M' + E') ∧ h_sl h' + (51 * K + 2 * M + 4 * E) ≤ h_sl h + (51 * K' + 2 * M' + 4 * E')
theorem Acc.rf (h : PH) (K M E : Nat) : Acc h h K M E K M E := ⟨Nat.le_refl _, Nat.le_refl _⟩
theorem Acc.tr {h h1 h2 : PH} {K M E K1 M1 E1 K2 M2 E2 : Nat} (a : Acc h h1 K M E K1 M1 E1) (b : Acc h1 h2 K1 M1 E1 K2 M2 E2) : Acc h h2 K M E K2 M2 E2 := by
  obtain ⟨a1, a2⟩ := a
  obtain ⟨b1, b2⟩ := b
  exact ⟨by omega, by omega⟩
theorem Fr.acc {W : Nat → Nat → Prop} {h h' : PH} (hf : Fr W h h') (K M E : Nat) : Acc h h' K M E K M E := by
  unfold Acc
  rw [hf.2.2.1, hf.2.2.2.1]
  exact ⟨Nat.le_refl _, Nat.le_refl _⟩
