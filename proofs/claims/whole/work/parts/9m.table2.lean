/-! table on the class's side: what was told is the table -/
theorem h_l_wrl (h : PH) (c : Nat) (g : Nat → Int64) (c' k : Nat) : h_l (w_rl h c g) c' k = if c' = c then g k else h_l h c' k := by
  show upr (h_l h) c g c' k = _
  unfold upr
  split <;> rfl
theorem wrl_i (h : PH) (c : Nat) (g : Nat → Int64) : h_i (w_rl h c g) = h_i h := rfl
theorem wri_l (h : PH) (c : Nat) (g : Nat → Int32) : h_l (w_ri h c g) = h_l h := rfl
theorem Fr.wrl {W : Nat → Nat → Prop} (h : PH) {c : Nat} (g : Nat → Int64) (hw : ∀ k, W c k) : Fr W h (w_rl h c g) := ⟨rfl, rfl, rfl, rfl, rfl, fun c' k' hn => ⟨rfl, by rw [h_l_wrl, if_neg (fun q => hn (by rw [q]; exact hw k'))]⟩⟩
theorem cpyL {f g : Nat → Int64} {n k : Nat} (hk : k < n) : va_cpy f g 0 0 n k = f k := by
  unfold va_cpy
  rw [if_pos ⟨by omega, by omega⟩]
  congr 1
  omega
theorem cpyI {f g : Nat → Int32} {n k : Nat} (hk : k < n) : va_cpy f g 0 0 n k = f k := by
  unfold va_cpy
  rw [if_pos ⟨by omega, by omega⟩]
  congr 1
  omega
theorem shl1 : ∀ n, n < 15 → ((1 : Int32) <<< (nI n &&& 31)) - (1 : Int32) = nI (2 ^ n - 1) := by decide
def soF (l : List Nat) (k : Nat) : Int32 := nI (l.getD k 0)
def Wtk (c k : Nat) : Prop := 2 ≤ c ∧ c ≤ 5
theorem c00 {n m : Nat} (hn : n ≤ m) (h14 : n < 2 ^ 31) (m2 : Nat) (hm2 : n ≤ m2) : (¬ (0 : Int32) < 0) ∧ (¬ (0 : Int32) < 0) ∧ (¬ nI n < 0) ∧ (0 : Int32).toNatClampNeg + (nI n).toNatClampNeg ≤ m ∧ (0 : Int32).toNatClampNeg + (nI n).toNatClampNeg ≤ m2 := by
  refine ⟨by decide, by decide, nI_pos h14, ?_, ?_⟩
  · rw [nI_clamp h14]
    show 0 + n ≤ m
    omega
  · rw [nI_clamp h14]
    show 0 + n ≤ m2
    omega
theorem gr_takeTold {d : Nat} {h : PH} {Q : PQ} {s : PSt} (hO : OwS h) (hs : CTl h s) (ho : okS s) (k : ∀ h', CGr h' 2 s.2.2.1 (2 ^ s.2.2.1.length - 1) → CSo h' 2 s.2.2.1.length (soF s.2.2.2) → h_i h' 2 4 = nI s.2.1.length → CAc h' 2 [] → h_i h' 2 6 = h_i h 2 6 + 1 → Fr Wtk h h' → Q none h') : wpm (d + 1) 36 [.ref 2, .ref 8] h Q := by
  refine wpm_in P_Gr_takeTold rfl (by decide) (by show ¬ 2 < 2; decide) ?_
  have hG := GrS_2 hO
  have hT := os_teller hO
  have h14 := ho.2.2.1
  obtain ⟨a1, a2, a3, a4, a5, a6⟩ := hs
  have e3 : h_i (w_i (w_i h 2 3 (h_i h 8 5)) 2 4 (h_i (w_i h 2 3 (h_i h 8 5)) 8 1)) 2 3 = nI s.2.2.1.length := by
    rw [wi_ne _ _ (by omega), wi_eq, a3]
  refine B_Gr_takeTold_0 hT hG.1 (or_t_code hO) hG.2.1.1 (os_t_code hO) hG.2.1.2 (by rw [e3]; exact c00 (by omega) (by omega) _ (by omega)) ?_
  rw [e3, nI_clamp (by omega)]
  have f1 : Fr Wtk h (w_rl (w_i (w_i h 2 3 (h_i h 8 5)) 2 4 (h_i (w_i h 2 3 (h_i h 8 5)) 8 1)) (2 + 1) (va_cpy (h_l (w_i (w_i h 2 3 (h_i h 8 5)) 2 4 (h_i (w_i h 2 3 (h_i h 8 5)) 8 1)) 10) (h_l (w_i (w_i h 2 3 (h_i h 8 5)) 2 4 (h_i (w_i h 2 3 (h_i h 8 5)) 8 1)) (2 + 1)) 0 0 s.2.2.1.length)) := (Fr.wi h _ ⟨by omega, by omega⟩).tr ((Fr.wi _ _ ⟨by omega, by omega⟩).tr (Fr.wrl _ _ (fun _ => ⟨by omega, by omega⟩)))
  have g3 : h_i (w_rl (w_i (w_i h 2 3 (h_i h 8 5)) 2 4 (h_i (w_i h 2 3 (h_i h 8 5)) 8 1)) (2 + 1) (va_cpy (h_l (w_i (w_i h 2 3 (h_i h 8 5)) 2 4 (h_i (w_i h 2 3 (h_i h 8 5)) 8 1)) 10) (h_l (w_i (w_i h 2 3 (h_i h 8 5)) 2 4 (h_i (w_i h 2 3 (h_i h 8 5)) 8 1)) (2 + 1)) 0 0 s.2.2.1.length)) 2 3 = nI s.2.2.1.length := e3
  have g4 : h_i (w_rl (w_i (w_i h 2 3 (h_i h 8 5)) 2 4 (h_i (w_i h 2 3 (h_i h 8 5)) 8 1)) (2 + 1) (va_cpy (h_l (w_i (w_i h 2 3 (h_i h 8 5)) 2 4 (h_i (w_i h 2 3 (h_i h 8 5)) 8 1)) 10) (h_l (w_i (w_i h 2 3 (h_i h 8 5)) 2 4 (h_i (w_i h 2 3 (h_i h 8 5)) 8 1)) (2 + 1)) 0 0 s.2.2.1.length)) 2 4 = nI s.2.1.length := by
    rw [wrl_i, wi_eq, wi_ne _ _ (by omega), a2]
  have g6 : h_i (w_rl (w_i (w_i h 2 3 (h_i h 8 5)) 2 4 (h_i (w_i h 2 3 (h_i h 8 5)) 8 1)) (2 + 1) (va_cpy (h_l (w_i (w_i h 2 3 (h_i h 8 5)) 2 4 (h_i (w_i h 2 3 (h_i h 8 5)) 8 1)) 10) (h_l (w_i (w_i h 2 3 (h_i h 8 5)) 2 4 (h_i (w_i h 2 3 (h_i h 8 5)) 8 1)) (2 + 1)) 0 0 s.2.2.1.length)) 2 6 = h_i h 2 6 := by
    rw [wrl_i, wi_ne _ _ (by omega), wi_ne _ _ (by omega)]
  have gl : ∀ t l, s.2.2.1[t]? = some l → h_l (w_rl (w_i (w_i h 2 3 (h_i h 8 5)) 2 4 (h_i (w_i h 2 3 (h_i h 8 5)) 8 1)) (2 + 1) (va_cpy (h_l (w_i (w_i h 2 3 (h_i h 8 5)) 2 4 (h_i (w_i h 2 3 (h_i h 8 5)) 8 1)) 10) (h_l (w_i (w_i h 2 3 (h_i h 8 5)) 2 4 (h_i (w_i h 2 3 (h_i h 8 5)) 8 1)) (2 + 1)) 0 0 s.2.2.1.length)) (2 + 1) t = pk l := fun t l ht => by
    have hlt := (List.getElem?_eq_some_iff.mp ht).1
    rw [h_l_wrl, if_pos rfl, cpyL hlt]
    exact (a5 t l ht).1
  generalize w_rl (w_i (w_i h 2 3 (h_i h 8 5)) 2 4 (h_i (w_i h 2 3 (h_i h 8 5)) 8 1)) (2 + 1) (va_cpy (h_l (w_i (w_i h 2 3 (h_i h 8 5)) 2 4 (h_i (w_i h 2 3 (h_i h 8 5)) 8 1)) 10) (h_l (w_i (w_i h 2 3 (h_i h 8 5)) 2 4 (h_i (w_i h 2 3 (h_i h 8 5)) 8 1)) (2 + 1)) 0 0 s.2.2.1.length) = g at f1 g3 g4 g6 gl ⊢
  have hO1 := f1.ow hO
  have hG1 := GrS_2 hO1
  have e4 : h_i (w_ri g (2 + 2) (va_cpy (h_i g 11) (h_i g (2 + 2)) 0 0 ((h_i g 2 3).toNatClampNeg))) 2 3 = nI s.2.2.1.length := by
    rw [wri_ne _ _ (by omega)]
    exact g3
  refine B_Gr_takeTold_33 (os_teller hO1) (or_t_length hO1) hG1.1 hG1.2.2.1.1 (os_t_length hO1) hG1.2.2.1.2 (by rw [g3]; exact c00 (by omega) (by omega) _ (by omega)) (or_t_sound hO1) hG1.2.2.2.1.1 (os_t_sound hO1) hG1.2.2.2.1.2 (by rw [e4]; exact c00 (by omega) (by omega) _ (by omega)) ?_
  rw [e4, g3, nI_clamp (by omega)]
  have f2 : Fr Wtk h (w_ri (w_ri g (2 + 2) (va_cpy (h_i g 11) (h_i g (2 + 2)) 0 0 s.2.2.1.length)) (2 + 3) (va_cpy (h_i (w_ri g (2 + 2) (va_cpy (h_i g 11) (h_i g (2 + 2)) 0 0 s.2.2.1.length)) 12) (h_i (w_ri g (2 + 2) (va_cpy (h_i g 11) (h_i g (2 + 2)) 0 0 s.2.2.1.length)) (2 + 3)) 0 0 s.2.2.1.length)) := f1.tr ((Fr.wri _ _ (fun _ => ⟨by omega, by omega⟩)).tr (Fr.wri _ _ (fun _ => ⟨by omega, by omega⟩)))
  have k2 : ∀ f : Nat, h_i (w_ri (w_ri g (2 + 2) (va_cpy (h_i g 11) (h_i g (2 + 2)) 0 0 s.2.2.1.length)) (2 + 3) (va_cpy (h_i (w_ri g (2 + 2) (va_cpy (h_i g 11) (h_i g (2 + 2)) 0 0 s.2.2.1.length)) 12) (h_i (w_ri g (2 + 2) (va_cpy (h_i g 11) (h_i g (2 + 2)) 0 0 s.2.2.1.length)) (2 + 3)) 0 0 s.2.2.1.length)) 2 f = h_i g 2 f := fun f => by rw [wri_ne _ _ (by omega), wri_ne _ _ (by omega)]
  have kl : ∀ t l, s.2.2.1[t]? = some l → h_i (w_ri (w_ri g (2 + 2) (va_cpy (h_i g 11) (h_i g (2 + 2)) 0 0 s.2.2.1.length)) (2 + 3) (va_cpy (h_i (w_ri g (2 + 2) (va_cpy (h_i g 11) (h_i g (2 + 2)) 0 0 s.2.2.1.length)) 12) (h_i (w_ri g (2 + 2) (va_cpy (h_i g 11) (h_i g (2 + 2)) 0 0 s.2.2.1.length)) (2 + 3)) 0 0 s.2.2.1.length)) (2 + 2) t = nI l.length := fun t l ht => by
    have hlt := (List.getElem?_eq_some_iff.mp ht).1
    rw [wri_ne _ _ (by omega), wri_eq, cpyI hlt, f1.i _ _ (fun q => by unfold Wtk at q; omega)]
    exact (a5 t l ht).2
  have ks : ∀ t, t < s.2.2.1.length → h_i (w_ri (w_ri g (2 + 2) (va_cpy (h_i g 11) (h_i g (2 + 2)) 0 0 s.2.2.1.length)) (2 + 3) (va_cpy (h_i (w_ri g (2 + 2) (va_cpy (h_i g 11) (h_i g (2 + 2)) 0 0 s.2.2.1.length)) 12) (h_i (w_ri g (2 + 2) (va_cpy (h_i g 11) (h_i g (2 + 2)) 0 0 s.2.2.1.length)) (2 + 3)) 0 0 s.2.2.1.length)) (2 + 3) t = soF s.2.2.2 t := fun t ht => by
    rw [wri_eq, cpyI ht, wri_ne _ _ (by omega), f1.i _ _ (fun q => by unfold Wtk at q; omega)]
    have hsl := ho.2.2.2.1
    have gt : s.2.2.2[t]? = some s.2.2.2[t] := List.getElem?_eq_getElem (by omega)
    rw [a6 t _ gt]
    unfold soF
    rw [List.getD_eq_getElem?_getD, gt]
    rfl
  have km : ∀ t, h_l (w_ri (w_ri g (2 + 2) (va_cpy (h_i g 11) (h_i g (2 + 2)) 0 0 s.2.2.1.length)) (2 + 3) (va_cpy (h_i (w_ri g (2 + 2) (va_cpy (h_i g 11) (h_i g (2 + 2)) 0 0 s.2.2.1.length)) 12) (h_i (w_ri g (2 + 2) (va_cpy (h_i g 11) (h_i g (2 + 2)) 0 0 s.2.2.1.length)) (2 + 3)) 0 0 s.2.2.1.length)) (2 + 1) t = h_l g (2 + 1) t := fun t => rfl
  generalize w_ri (w_ri g (2 + 2) (va_cpy (h_i g 11) (h_i g (2 + 2)) 0 0 s.2.2.1.length)) (2 + 3) (va_cpy (h_i (w_ri g (2 + 2) (va_cpy (h_i g 11) (h_i g (2 + 2)) 0 0 s.2.2.1.length)) 12) (h_i (w_ri g (2 + 2) (va_cpy (h_i g 11) (h_i g (2 + 2)) 0 0 s.2.2.1.length)) (2 + 3)) 0 0 s.2.2.1.length) = g2 at f2 k2 kl ks km ⊢
  have hO2 := f2.ow hO
  have hG2 := GrS_2 hO2
  refine B_Gr_takeTold_67 hG2.1 ?_
  rw [k2 3, g3, shl1 _ (by omega), wi_ne _ _ (by omega), wi_ne _ _ (by omega), k2 6, g6]
  have hp := Nat.two_pow_pos s.2.2.1.length
  refine k _ ⟨⟨h14, by omega, fun l hl => ⟨(ho.2.2.2.2.2.1 l hl).r, (ho.2.2.2.2.2.1 l hl).2.2⟩⟩, ?_, ?_, fun t l ht => ⟨?_, ?_⟩⟩ (fun t ht => ?_) ?_ ⟨?_, Nat.zero_le _, fun n w hn => by cases hn⟩ (wi_eq _ _ _ _) (f2.tr ((Fr.wi _ _ ⟨by omega, by omega⟩).tr ((Fr.wi _ _ ⟨by omega, by omega⟩).tr (Fr.wi _ _ ⟨by omega, by omega⟩))))
  · rw [wi_ne _ _ (by omega), wi_ne _ _ (by omega), wi_ne _ _ (by omega), k2 3, g3]
  · rw [wi_ne _ _ (by omega), wi_ne _ _ (by omega), wi_eq]
  · show h_l g2 (2 + 1) t = _
    rw [km, gl t l ht]
  · rw [wi_ne _ _ (by omega), wi_ne _ _ (by omega), wi_ne _ _ (by omega), kl t l ht]
  · rw [wi_ne _ _ (by omega), wi_ne _ _ (by omega), wi_ne _ _ (by omega), ks t ht]
  · rw [wi_ne _ _ (by omega), wi_ne _ _ (by omega), wi_ne _ _ (by omega), k2 4, g4]
  · rw [wi_ne _ _ (by omega), wi_eq]
    rfl
theorem prs_le (B : List Nat) : ∀ (f p : Nat) (s : PSt), (prs B f p s).1 ≤ 4
  | 0, _, _ => Nat.zero_le _
  | f + 1, p, s => by
    unfold prs
    split
    · split
      · exact Nat.zero_le _
      · exact Nat.le_of_ble_eq_true rfl
    · split
      · split
        · exact prs_le B f _ _
        · exact st_le s _
      · split
        · exact prs_le B f _ _
        · split
          · exact prs_le B f _ _
          · exact stS_le s _
def Wtb (c k : Nat) : Prop := Wtl c k ∨ (c = 0 ∧ k = 1)
def Wta (c k : Nat) : Prop := Wtb c k ∨ Wtk c k ∨ Wcd c k
/-- the outcome of a table's text -/
def tbl (B : List Nat) : Nat × Nat × PSt := prs B (B.length + 1) 0 (0, [], [], [])
theorem ow_table {d : Nat} {h : PH} {Q : PQ} {B : List Nat} (hO : OwS h) (hB : CBy h B) (ht : h_i h 0 1 = nI B.length) (k1 : ¬ (tbl B).1 = 0 → ∀ h', h_i h' 8 7 = nI (tbl B).1 → h_i h' 8 8 = nI (tbl B).2.1 → h_i h' 0 1 = 0 → Fr Wtb h h' → Q (some (.int (-1))) h') (k2 : (tbl B).1 = 0 → ∀ h', okS (tbl B).2.2 → h_i h' 8 7 = 0 → h_i h' 8 8 = -1 → h_i h' 0 1 = 0 → CGr h' 2 (tbl B).2.2.2.2.1 (2 ^ (tbl B).2.2.2.2.1.length - 1) → CSo h' 2 (tbl B).2.2.2.2.1.length (soF (tbl B).2.2.2.2.2) → h_i h' 2 4 = nI (tbl B).2.2.2.1.length → CAc h' 2 [] → CWd h' [] → h_i h' 2 6 = h_i h 2 6 + 1 → Fr Wta h h' → Q (some (.int (nI (tbl B).2.2.2.2.1.length))) h') : wpm (d + 4) 120 [.ref 0] h Q := by
  refine wpm_in P_Ow_table rfl (by decide) (by show ¬ 1 < 1; decide) ?_
  refine B_Ow_table_0 hO.1 (or_teller hO) (or_tape hO) (os_teller hO) ?_
  rw [ht]
  refine te_tell hO hB (fun g hT hf => ?_)
  have hO1 := hf.ow hO
  have e7 : h_i (w_i g 0 1 0) 8 7 = nI (tbl B).1 := by
    rw [wi_ne _ _ (by omega)]
    exact hT.1
  have hf1 : Fr Wtb h (w_i g 0 1 0) := (hf.up (fun c k q => Or.inl q)).tr (Fr.wi _ _ (Or.inr ⟨rfl, rfl⟩))
  have h4 : (tbl B).1 < 2 ^ 31 ∨ True := Or.inr trivial
  refine B_Ow_table_15 hO1.1 (or_teller hO1) (os_teller hO1) (fun q => ?_) (fun q => ?_)
  · rw [e7] at q
    by_cases z : (tbl B).1 = 0
    · obtain ⟨t1, t2, t3⟩ := hT.2.1 z
      have hO2 := hf1.ow hO
      have hs2 : CTl (w_i g 0 1 0) (tbl B).2.2 := by
        obtain ⟨a1, a2, a3, a4, a5, a6⟩ := t2
        exact ⟨by rw [wi_ne _ _ (by omega)]; exact a1, by rw [wi_ne _ _ (by omega)]; exact a2, by rw [wi_ne _ _ (by omega)]; exact a3, a4, fun t l hl => ⟨(a5 t l hl).1, by rw [wi_ne _ _ (by omega)]; exact (a5 t l hl).2⟩, fun t x hx => by rw [wi_ne _ _ (by omega)]; exact a6 t x hx⟩
      refine B_Ow_table_32 hO2.1 (or_groups hO2) (or_teller hO2) (os_groups hO2) (gr_takeTold (d := d + 2) hO2 hs2 t3 (fun g2 c1 c2 c3 c4 c5 f2 => ?_))
      have hO3 := f2.ow hO2
      refine B_Ow_table_43 hO3.1 (or_theWord hO3) (os_theWord hO3) (wo_clear hO3 (fun g3 hw f3 => ?_))
      have hO4 := f3.ow hO3
      have hF : Fr Wta h g3 := (hf1.up (fun c k q => Or.inl q)).tr ((f2.up (fun c k q => Or.inr (Or.inl q))).tr (f3.up (fun c k q => Or.inr (Or.inr q))))
      have c1' : CGr g3 2 _ _ := c1.fr f3 (fun c k q => by unfold Wcd at q; omega)
      refine B_Ow_table_50 hO4.1 (or_groups hO4) (os_groups hO4) ?_
      rw [c1'.2.1]
      refine k2 z g3 t3 ?_ ?_ ?_ c1' (fun t ht => (f3.i _ _ (fun q => by unfold Wcd at q; omega)).trans (c2 t ht)) ((f3.i _ _ (fun q => by unfold Wcd at q; omega)).trans c3) ⟨(f3.i _ _ (fun q => by unfold Wcd at q; omega)).trans c4.1, c4.2.1, fun n w hn => by cases hn⟩ hw ?_ hF
      · rw [f3.i _ _ (fun q => by unfold Wcd at q; omega), f2.i _ _ (fun q => by unfold Wtk at q; omega), e7, z]
        rfl
      · rw [f3.i _ _ (fun q => by unfold Wcd at q; omega), f2.i _ _ (fun q => by unfold Wtk at q; omega), wi_ne _ _ (by omega)]
        exact t1
      · rw [f3.i _ _ (fun q => by unfold Wcd at q; omega), f2.i _ _ (fun q => by unfold Wtk at q; omega), wi_eq]
      · rw [f3.i _ _ (fun q => by unfold Wcd at q; omega), c5, wi_ne _ _ (by omega), hf.i _ _ (fun q => by unfold Wtl at q; omega)]
    · exfalso
      have hle : (tbl B).1 ≤ 4 := prs_le B _ _ _
      exact z ((nI_eq (b := 0) (by omega) (by omega)).mp q)
  · rw [e7] at q
    have z : ¬ (tbl B).1 = 0 := fun y => q (by rw [y]; rfl)
    refine B_Ow_table_30 (k1 z _ e7 ?_ (wi_eq _ _ _ _) hf1)
    rw [wi_ne _ _ (by omega)]
    exact hT.2.2 z
