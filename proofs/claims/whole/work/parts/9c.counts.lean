/-! spell on the class's side: the least letters of a sound; readings of each beginning -/
theorem CSo.fr' {W : Nat → Nat → Prop} {h h' : PH} {o n : Nat} {so : Nat → Int32} (hf : Fr W h h') (hw : ∀ k, ¬ W (o + 3) k) (hs : CSo h o n so) : CSo h' o n so := fun k hk => (hf.i _ _ (hw k)).trans (hs k hk)
theorem sp_shortest {d : Nat} {h : PH} {Q : PQ} {gs : List (List Nat)} {m : Nat} {so : Nat → Int32} {a : Int32} (hG : GrS h 2) (hg : CGr h 2 gs m) (hso : CSo h 2 gs.length so) (k : Q (some (.int (oI (mnl gs m so a gs.length)))) h) : wpm (d + 3) 64 [.ref 2, .int a] h Q := by
  refine wpm_in P_Sp_shortestOf rfl (by decide) (by show ¬ 4 < 2; decide) (B_Sp_shortestOf_0 ?_)
  have h14 := hg.1.1
  have loop : ∀ (c j : Nat), gs.length - j = c → j ≤ gs.length → wpx (d + 2) P_Sp_shortestOf 4 [.ref 2, .int a, .int (oI (mnl gs m so a j)), .int (nI j)] [] h Q := by
    intro c
    induction c with
    | zero =>
      intro j hc hj
      have ej : j = gs.length := by omega
      subst ej
      refine B_Sp_shortestOf_4 hG.1 (fun _ => B_Sp_shortestOf_58 k) (fun q => ?_)
      rw [hg.2.1, nI_leI (by omega) (by omega)] at q
      omega
    | succ c ih =>
      intro j hc hj
      have gj : gs[j]? = some gs[j] := List.getElem?_eq_getElem (by omega)
      generalize gs[j] = l at gj
      have el : gs.getD j [] = l := by rw [List.getD_eq_getElem?_getD, gj]; rfl
      obtain ⟨a1, a2, a3⟩ := hg.1.at gj
      have h7 := a1.2
      have va : vp_in (nI j) 14 := vp_in_nI a3 (by omega)
      have nx := ih (j + 1) (by omega) (by omega)
      have out : mnl gs m so a (j + 1) = mnl gs m so a j → wpx (d + 2) P_Sp_shortestOf 52 [.ref 2, .int a, .int (oI (mnl gs m so a j)), .int (nI j)] [] h Q := fun e => by
        refine B_Sp_shortestOf_52 ?_
        rw [nI_1]
        rw [e] at nx
        exact nx
      have inn : mnl gs m so a (j + 1) = some l.length → wpx (d + 2) P_Sp_shortestOf 45 [.ref 2, .int a, .int (oI (mnl gs m so a j)), .int (nI j)] [] h Q := fun e => by
        refine B_Sp_shortestOf_45 hG.1 hG.2.2.1.1 hG.2.2.1.2 va (B_Sp_shortestOf_52 ?_)
        rw [nI_clamp (by omega), (hg.2.2.2 j l gj).2, nI_1]
        rw [e] at nx
        exact nx
      refine B_Sp_shortestOf_4 hG.1 (fun q => ?_) (fun _ => B_Sp_shortestOf_12 hG.1 (gr_isIn hG hg (by omega) (fun q => ?_) (fun q => ?_)))
      · rw [hg.2.1, nI_leI (by omega) (by omega)] at q
        omega
      · refine B_Sp_shortestOf_17 (fun z => absurd z (by decide)) (fun _ => B_Sp_shortestOf_20 hG.1 hG.2.2.2.1.1 hG.2.2.2.1.2 va (fun z => ?_) (fun z => ?_))
        · rw [nI_clamp (by omega), hso j (by omega)] at z
          exact out (if_neg (fun y => z y.2))
        · rw [nI_clamp (by omega), hso j (by omega)] at z
          cases hr : mnl gs m so a j with
          | none =>
            rw [hr] at inn
            refine B_Sp_shortestOf_30 (fun _ => inn ?_) (fun y => absurd rfl y)
            show (if _ then _ else _) = _
            rw [if_pos ⟨q, z⟩, hr, el]
          | some n =>
            have n7 := mnl_7 hg.1 j n (by omega) hr
            have e : mnl gs m so a (j + 1) = if l.length < n then some l.length else some n := by
              show (if _ then _ else _) = _
              rw [if_pos ⟨q, z⟩, hr, el]
            rw [hr] at inn out
            refine B_Sp_shortestOf_30 (fun y => absurd y (nI_neg1 (by omega))) (fun _ => B_Sp_shortestOf_35 hG.1 hG.2.2.1.1 hG.2.2.1.2 va (fun y => ?_) (fun y => ?_))
            · rw [nI_clamp (by omega), (hg.2.2.2 j l gj).2] at y
              have y' := (nI_leI (a := n) (b := l.length) (by omega) (by omega)).mp y
              exact out (e.trans (if_neg (by omega)))
            · rw [nI_clamp (by omega), (hg.2.2.2 j l gj).2] at y
              have y' : ¬ n ≤ l.length := fun u => y ((nI_leI (a := n) (b := l.length) (by omega) (by omega)).mpr u)
              exact inn (e.trans (if_pos (by omega)))
      · exact B_Sp_shortestOf_17 (fun _ => out (if_neg (fun y => q y.1))) (fun z => absurd rfl z)
  exact loop _ 0 rfl (Nat.zero_le _)
/-- readings of each beginning, 2 for more -/
def CSw (h : PH) (c : Nat) (gs : List (List Nat)) (m : Nat) (w : List Nat) (n : Nat) : Prop := ∀ i, i ≤ n → h_i h (c + 5) i = nI (min 2 (rdc gs m (w.take i)))
def sm2 (f : Nat → Nat) : Nat → Nat
  | 0 => 0
  | n + 1 => sm2 f n + min 2 (f n)
theorem sm2_is (f : Nat → Nat) : ∀ n, min 2 (sm2 f n) = min 2 (sm f n) ∧ sm2 f n ≤ 2 * n
  | 0 => ⟨rfl, Nat.le_refl _⟩
  | n + 1 => by
    have := sm2_is f n
    show min 2 (sm2 f n + min 2 (f n)) = min 2 (sm f n + f n) ∧ sm2 f n + min 2 (f n) ≤ 2 * (n + 1)
    omega
theorem sp_countNew {d : Nat} {h : PH} {Q : PQ} {gs : List (List Nat)} {m c j : Nat} {w l : List Nat} (hS : SpS h c) (hO : OwS h) (hg : CGr h 2 gs m) (gj : gs[j]? = some l) (hw : ∀ x ∈ w, 0 < x ∧ x < 28) (hn : w.length + l.length ≤ 28) (hc : CSw h c gs m w w.length) (k : ∀ h', CSw h' c gs m (w ++ l) (w ++ l).length → Fr (fun a _ => a = c + 5) h h' → Q (some (.long (pk (ls7 (w ++ l))))) h') : wpm (d + 3) 66 [.ref c, .ref 2, .int (nI j), .int (nI w.length), .long (pk (ls7 w))] h Q := by
  refine wpm_in P_Sp_countNew rfl (by decide) (by show ¬ 13 < 6; decide) ?_
  have hG := GrS_2 hO
  obtain ⟨a1, a2, a3⟩ := hg.1.at gj
  have h7 := a1.2
  have h14 := hg.1.1
  have hc63 : 63 ≤ c := hS.2.2.2.2.2.2.1
  have hwl : ∀ x ∈ w ++ l, 0 < x ∧ x < 28 := fun x hx => by
    rcases List.mem_append.mp hx with q | q
    · exact hw x q
    · exact a1.1 x q
  refine B_Sp_countNew_0 hG.1 hG.2.2.1.1 hG.2.2.1.2 (vp_in_nI a3 (by omega)) ?_
  rw [nI_clamp (by omega), (hg.2.2.2 j l gj).2]
  have loop : ∀ (e i : Nat) (g : PH) (v10 v11 v12 : Value), l.length - i = e → i ≤ l.length → Fr (fun a _ => a = c + 5) h g → CSw g c gs m (w ++ l) (w.length + i) → wpx (d + 2) P_Sp_countNew 15 [.ref c, .ref 2, .int (nI j), .int (nI w.length), .long (pk (ls7 w)), .retAddr 2, .int (nI l.length), .long (pk (ls7 (w ++ l.take i))), .retAddr 2, .int (nI i), v10, v11, v12] [] g Q := by
    intro e
    induction e with
    | zero =>
      intro i g v10 v11 v12 he hi hf hs
      have ei : i = l.length := by omega
      refine B_Sp_countNew_15 (fun _ => B_Sp_countNew_169 ?_) (fun q => ?_)
      · rw [ei, List.take_length]
        refine k g ?_ hf
        rw [List.length_append, ← ei]
        exact hs
      · rw [nI_leI (by omega) (by omega)] at q
        omega
    | succ e ih =>
      intro i g v10 v11 v12 he hi hf hs
      have hO' := hf.ow hO
      have hG' := GrS_2 hO'
      have hg' : CGr g 2 gs m := hg.fr hf (fun a k q => by omega)
      have hS' := hS.fr hf
      have gx : l[i]? = some l[i] := List.getElem?_eq_getElem (by omega)
      generalize l[i] = x at gx
      have hx := a1.1 x (List.mem_of_getElem? gx)
      have htk : l.take (i + 1) = l.take i ++ [x] := by
        rw [List.take_add_one, gx]
        rfl
      have hwt : ∀ y ∈ w ++ l.take i, 0 < y ∧ y < 28 := fun y hy => by
        rcases List.mem_append.mp hy with q | q
        · exact hw y q
        · exact a1.1 y (List.mem_of_mem_take q)
      refine B_Sp_countNew_15 (fun q => ?_) (fun _ => B_Sp_countNew_22 (fun q => ?_) (fun _ => B_Sp_countNew_31 hG'.1 hG'.2.1.1 hG'.2.1.2 (vp_in_nI a3 (by omega)) ?_))
      · rw [nI_leI (by omega) (by omega)] at q
        omega
      · rw [nI_add] at q
        have := (nI_leI (a := 28) (by omega) (by omega)).mp q
        omega
      · rw [nI_clamp (by omega), (hg'.2.2.2 j l gj).1]
        refine ow_signOf a1 ?_
        rw [sgn_at a1 gx]
        refine B_Sp_countNew_56 ?_
        rw [nI_to64 (by omega), pk_sh (ls7_ok hwt) (by omega)]
        have hpl : pkN (ls7 (w ++ l.take i) ++ [x]) < 2 ^ 63 := by
          rw [pkN_snoc]
          have := (ls7_ok hwt).pk
          omega
        refine ow_lastN (k := 7) hpl (Nat.le_refl _) ?_
        rw [ls7_snoc hwt hx, List.append_assoc, ← htk]
        refine B_Sp_countNew_63 ?_
        rw [nI_add, nI_1]
        have vtk : (w ++ l).take (w.length + (i + 1)) = w ++ l.take (i + 1) := by
          rw [List.take_append, List.take_of_length_le (by omega), show w.length + (i + 1) - w.length = i + 1 by omega]
        have vlen : (w ++ l.take (i + 1)).length = w.length + i + 1 := by
          rw [List.length_append, List.length_take]
          omega
        have hv : ∀ y ∈ w ++ l.take (i + 1), 0 < y ∧ y < 28 := fun y hy => by
          rcases List.mem_append.mp hy with q | q
          · exact hw y q
          · exact a1.1 y (List.mem_of_mem_take q)
        have h7v := ls7_ok hv
        have hlast := rdc_last hg.1 _ (w ++ l.take (i + 1)) (Nat.le_refl _) (by omega)
        have inner : ∀ (e2 t : Nat), gs.length - t = e2 → t ≤ gs.length → wpx (d + 2) P_Sp_countNew 71 [.ref c, .ref 2, .int (nI j), .int (nI w.length), .long (pk (ls7 w)), .retAddr 2, .int (nI l.length), .long (pk (ls7 (w ++ l.take (i + 1)))), .retAddr 2, .int (nI i), .int (nI (w.length + i + 1)), .int (nI (sm2 (fun t => if sufB gs m (w ++ l.take (i + 1)) t = true then rdc gs m ((w ++ l.take (i + 1)).take ((w ++ l.take (i + 1)).length - (gs.getD t []).length)) else 0) t)), .int (nI t)] [] g Q := by
          intro e2
          induction e2 with
          | zero =>
            intro t he2 ht
            have et : t = gs.length := by omega
            subst et
            refine B_Sp_countNew_71 hG'.1 (fun _ => B_Sp_countNew_150 hS'.1 hS'.2.2.2.2.2.1.1 hS'.2.2.2.2.2.1.2 (vp_in_nI (by omega) (by omega)) ?_) (fun q => ?_)
            · rw [nI_clamp (by omega), nI_1]
              have hm2 := sm2_is (fun t => if sufB gs m (w ++ l.take (i + 1)) t = true then rdc gs m ((w ++ l.take (i + 1)).take ((w ++ l.take (i + 1)).length - (gs.getD t []).length)) else 0) gs.length
              rw [← hlast] at hm2
              generalize sm2 _ gs.length = S at hm2 ⊢
              have eS : (if nI S < (2 : Int32) then nI S else (2 : Int32)) = nI (min 2 (rdc gs m (w ++ l.take (i + 1)))) := by
                show (if nI S < nI 2 then nI S else nI 2) = _
                by_cases z : S < 2
                · rw [if_pos ((nI_ltI (b := 2) (by omega) (by omega)).mpr z)]
                  congr 1
                  omega
                · rw [if_neg (fun y => z ((nI_ltI (b := 2) (by omega) (by omega)).mp y)), show min 2 (rdc gs m (w ++ l.take (i + 1))) = 2 by omega]
              rw [eS]
              refine ih (i + 1) _ _ _ _ (by omega) (by omega) (hf.tr (Fr.wi _ _ rfl)) (fun i' hi' => ?_)
              by_cases z : i' = w.length + i + 1
              · rw [z, wi_eq, ← vtk]
                rfl
              · rw [wi_ne _ _ (by omega)]
                exact hs i' (by omega)
            · rw [hg'.2.1, nI_leI (by omega) (by omega)] at q
              omega
          | succ e2 ih2 =>
            intro t he2 ht
            have gt : gs[t]? = some gs[t] := List.getElem?_eq_getElem (by omega)
            generalize gs[t] = lt at gt
            have et : gs.getD t [] = lt := by rw [List.getD_eq_getElem?_getD, gt]; rfl
            obtain ⟨b1, b2, b3⟩ := hg.1.at gt
            have l7 := b1.2
            have va : vp_in (nI t) 14 := vp_in_nI b3 (by omega)
            have nx := ih2 (t + 1) (by omega) (by omega)
            have hm2 := (sm2_is (fun t => if sufB gs m (w ++ l.take (i + 1)) t = true then rdc gs m ((w ++ l.take (i + 1)).take ((w ++ l.take (i + 1)).length - (gs.getD t []).length)) else 0) t).2
            have no : ¬ sufB gs m (w ++ l.take (i + 1)) t = true → wpx (d + 2) P_Sp_countNew 144 [.ref c, .ref 2, .int (nI j), .int (nI w.length), .long (pk (ls7 w)), .retAddr 2, .int (nI l.length), .long (pk (ls7 (w ++ l.take (i + 1)))), .retAddr 2, .int (nI i), .int (nI (w.length + i + 1)), .int (nI (sm2 (fun t => if sufB gs m (w ++ l.take (i + 1)) t = true then rdc gs m ((w ++ l.take (i + 1)).take ((w ++ l.take (i + 1)).length - (gs.getD t []).length)) else 0) t)), .int (nI t)] [] g Q := fun z => by
              refine B_Sp_countNew_144 ?_
              rw [nI_1]
              have e3 : sm2 (fun t => if sufB gs m (w ++ l.take (i + 1)) t = true then rdc gs m ((w ++ l.take (i + 1)).take ((w ++ l.take (i + 1)).length - (gs.getD t []).length)) else 0) (t + 1) = sm2 (fun t => if sufB gs m (w ++ l.take (i + 1)) t = true then rdc gs m ((w ++ l.take (i + 1)).take ((w ++ l.take (i + 1)).length - (gs.getD t []).length)) else 0) t := by
                show _ + min 2 (if _ then _ else _) = _
                rw [if_neg z]
                rfl
              rw [e3] at nx
              exact nx
            refine B_Sp_countNew_71 hG'.1 (fun q => ?_) (fun _ => B_Sp_countNew_80 hG'.1 (gr_isIn hG' hg' (by omega) (fun q => ?_) (fun q => ?_)))
            · rw [hg'.2.1, nI_leI (by omega) (by omega)] at q
              omega
            · refine B_Sp_countNew_86 (fun z => absurd z (by decide)) (fun _ => B_Sp_countNew_89 hG'.1 hG'.2.2.1.1 hG'.2.2.1.2 va (fun z => ?_) (fun z => ?_))
              · rw [nI_clamp (by omega), (hg'.2.2.2 t lt gt).2, nI_ltI (by omega) (by omega)] at z
                refine no (fun y => ?_)
                have := (sufB_i.mp y).2.1
                rw [et] at this
                omega
              · rw [nI_clamp (by omega), (hg'.2.2.2 t lt gt).2, nI_ltI (by omega) (by omega)] at z
                have hle : lt.length ≤ (ls7 (w ++ l.take (i + 1))).length := by
                  unfold ls7
                  rw [List.length_drop]
                  omega
                refine B_Sp_countNew_101 hG'.1 hG'.2.2.1.1 hG'.2.2.1.2 va ?_
                rw [nI_clamp (by omega), (hg'.2.2.2 t lt gt).2]
                have hpk : pkN (ls7 (w ++ l.take (i + 1))) < 2 ^ 63 := by
                  have := h7v.pk
                  omega
                show wpm _ _ [.long (lN (pkN (ls7 (w ++ l.take (i + 1))))), _] _ _
                refine ow_lastN hpk l7 ?_
                have hmod := pkN_mod h7v.lt ((ls7 (w ++ l.take (i + 1))).length - lt.length)
                rw [show (ls7 (w ++ l.take (i + 1))).length - ((ls7 (w ++ l.take (i + 1))).length - lt.length) = lt.length by omega, pw32] at hmod
                rw [hmod]
                have hdr : (ls7 (w ++ l.take (i + 1))).drop ((ls7 (w ++ l.take (i + 1))).length - lt.length) = (w ++ l.take (i + 1)).drop ((w ++ l.take (i + 1)).length - lt.length) := by
                  unfold ls7
                  rw [List.drop_drop, List.length_drop]
                  congr 1
                  omega
                rw [hdr]
                refine B_Sp_countNew_113 hG'.1 hG'.2.1.1 hG'.2.1.2 va (fun y => ?_) (fun y => ?_)
                · rw [nI_clamp (by omega), (hg'.2.2.2 t lt gt).1, lg_cmp0] at y
                  refine no (fun u => y ?_)
                  have := (sufB_i.mp u).2.2
                  rw [et] at this
                  rw [← this]
                  rfl
                · rw [nI_clamp (by omega), (hg'.2.2.2 t lt gt).1, lg_cmp0] at y
                  have hol : okr ((w ++ l.take (i + 1)).drop ((w ++ l.take (i + 1)).length - lt.length)) := ⟨fun y hy => hv y (List.mem_of_mem_drop hy), by rw [List.length_drop]; omega⟩
                  have yy := (pk_inj hol b1).mp y
                  have yes : sufB gs m (w ++ l.take (i + 1)) t = true := sufB_i.mpr ⟨q, by rw [et]; omega, by rw [et]; exact yy.symm⟩
                  have sz : (2 : Nat) + 2 = 4 := rfl
                  have ex : nI (w.length + i + 1) - h_i g (2 + 2) (nI t).toNatClampNeg = nI (w.length + i + 1 - lt.length) := by rw [nI_clamp (by omega), (hg'.2.2.2 t lt gt).2, nI_subN (by omega)]
                  refine B_Sp_countNew_124 hS'.1 hS'.2.2.2.2.2.1.1 hG'.1 hG'.2.2.1.1 hG'.2.2.1.2 va hS'.2.2.2.2.2.1.2 (by rw [ex]; exact vp_in_nI (by omega) (by omega)) (B_Sp_countNew_144 ?_)
                  rw [ex, nI_clamp (by omega), hs _ (by omega), nI_add, nI_1]
                  have e4 : (w ++ l).take (w.length + i + 1 - lt.length) = (w ++ l.take (i + 1)).take ((w ++ l.take (i + 1)).length - lt.length) := by
                    rw [← vtk, List.take_take, vtk, vlen]
                    congr 1
                    omega
                  have e3 : sm2 (fun t => if sufB gs m (w ++ l.take (i + 1)) t = true then rdc gs m ((w ++ l.take (i + 1)).take ((w ++ l.take (i + 1)).length - (gs.getD t []).length)) else 0) (t + 1) = sm2 (fun t => if sufB gs m (w ++ l.take (i + 1)) t = true then rdc gs m ((w ++ l.take (i + 1)).take ((w ++ l.take (i + 1)).length - (gs.getD t []).length)) else 0) t + min 2 (rdc gs m ((w ++ l).take (w.length + i + 1 - lt.length))) := by
                    show _ + min 2 (if _ then _ else _) = _
                    rw [if_pos yes, et, e4]
                  rw [e3] at nx
                  exact nx
            · exact B_Sp_countNew_86 (fun _ => no (fun y => q (sufB_i.mp y).1)) (fun z => absurd rfl z)
        exact inner _ 0 rfl (Nat.zero_le _)
  have := loop _ 0 h (.retAddr 0) (.retAddr 0) (.retAddr 0) rfl (Nat.zero_le _) (Fr.rf _ _) (fun i hi => by rw [hc i (by omega), List.take_append_of_le_length (by omega)])
  rw [List.take_zero, List.append_nil] at this
  exact this
