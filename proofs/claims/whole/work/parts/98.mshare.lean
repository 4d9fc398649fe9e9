/-! share on the reference's side -/
def shT (K : Nat) (gs : List (List Nat)) (m n i : Nat) : Nat := if inm m i ∧ (gs.getD i []).length < n then K ^ (n - 1 - (gs.getD i []).length) else 0
def shA (K : Nat) (gs : List (List Nat)) (m n : Nat) : Nat → Nat
  | 0 => 0
  | j + 1 => shA K gs m n j + shT K gs m n j
def shB (gs : List (List Nat)) (m n : Nat) : Nat → Nat
  | 0 => 0
  | j + 1 => shB gs m n j + (if inm m j ∧ (gs.getD j []).length = n then 1 else 0)
theorem shA_st {K : Nat} {gs : List (List Nat)} {m n : Nat} (hn : 0 < n) : ∀ j, shA K gs m n j * K + shB gs m n j = shA K gs m (n + 1) j
  | 0 => by
    show 0 * K + 0 = 0
    rw [Nat.zero_mul]
  | j + 1 => by
    have ih := shA_st (K := K) (gs := gs) (m := m) hn j
    show (shA K gs m n j + shT K gs m n j) * K + (shB gs m n j + _) = shA K gs m (n + 1) j + shT K gs m (n + 1) j
    rw [← ih, Nat.add_mul]
    have e : shT K gs m n j * K + (if inm m j ∧ (gs.getD j []).length = n then 1 else 0) = shT K gs m (n + 1) j := by
      unfold shT
      generalize (gs.getD j []).length = l
      by_cases q : inm m j
      · by_cases z : l < n
        · rw [if_pos ⟨q, z⟩, if_neg (fun y => by have := y.2; omega), if_pos ⟨q, by omega⟩, ← Nat.pow_succ, show n + 1 - 1 - l = n - 1 - l + 1 by omega]
          rfl
        · by_cases y : l = n
          · rw [if_neg (fun u => z u.2), if_pos ⟨q, y⟩, if_pos ⟨q, by omega⟩, show n + 1 - 1 - l = 0 by omega, Nat.pow_zero, Nat.zero_mul]
          · rw [if_neg (fun u => z u.2), if_neg (fun u => y u.2), if_neg (fun u => by have := u.2; omega), Nat.zero_mul]
      · rw [if_neg (fun u => q u.1), if_neg (fun u => q u.1), if_neg (fun u => q u.1), Nat.zero_mul]
    omega
theorem shA_1 {K : Nat} {gs : List (List Nat)} {m : Nat} (ho : okg gs m) : ∀ j, j ≤ gs.length → shA K gs m 1 j = 0
  | 0, _ => rfl
  | j + 1, hj => by
    have gj : gs[j]? = some gs[j] := List.getElem?_eq_getElem (by omega)
    generalize gs[j] = l at gj
    have el : gs.getD j [] = l := by rw [List.getD_eq_getElem?_getD, gj]; rfl
    obtain ⟨a1, a2, a3⟩ := ho.at gj
    show shA K gs m 1 j + shT K gs m 1 j = 0
    rw [shA_1 ho j (by omega)]
    unfold shT
    rw [el, if_neg (fun u => by have := u.2; omega)]
theorem shA_8 {K : Nat} {gs : List (List Nat)} {m : Nat} (ho : okg gs m) : ∀ j, j ≤ gs.length → shA K gs m 8 j = shU K gs m j
  | 0, _ => rfl
  | j + 1, hj => by
    have gj : gs[j]? = some gs[j] := List.getElem?_eq_getElem (by omega)
    generalize gs[j] = l at gj
    have el : gs.getD j [] = l := by rw [List.getD_eq_getElem?_getD, gj]; rfl
    obtain ⟨a1, a2, a3⟩ := ho.at gj
    have h7 := a1.2
    show shA K gs m 8 j + shT K gs m 8 j = shU K gs m j + _
    rw [shA_8 ho j (by omega)]
    unfold shT
    rw [el]
    by_cases q : inm m j
    · rw [if_pos ⟨q, by omega⟩, if_pos q]
    · rw [if_neg (fun u => q u.1), if_neg q]
theorem md_share {d : Nat} {h : PH} {Q : PQ} {gs : List (List Nat)} {m : Nat} {x : Int32} (hM : MdS h) (hg : MGr h gs m) (k : ∀ h', Fr Wth h h' → Q (some (.long (shR gs m x))) h') : wpm (d + 4) 225 [.ref 17, .int x] h Q := by
  refine wpm_in P_Md_share rfl (by decide) (by show ¬ 11 < 2; decide) (B_Md_share_0 hM.1 ?_)
  have hf0 := th_fr h
  have hM0 := hf0.md hM
  have hg0 := hg.fr hf0 wth_g
  have hm := hg.1.m31
  have h14 := hg.1.1
  replace k := k _ hf0
  generalize w_i h 17 0 0 = g at hM0 hg0 k ⊢
  obtain ⟨n1, n2, n3, n4⟩ := shN hg.1
  have hK := shK_le gs m
  refine md_in ?_
  by_cases qx : x < 0 ∨ (1 : Int32) < x
  · rw [if_pos qx]
    refine B_Md_share_11 (fun z => absurd rfl z) (fun _ => B_Md_share_14 ?_)
    have e : shR gs m x = -1 := by
      unfold shR
      rw [if_neg (fun z => by rw [z] at qx; exact qx.elim (by decide) (by decide)), if_neg (fun z => by rw [z] at qx; exact qx.elim (by decide) (by decide))]
    rw [← e]
    exact k
  rw [if_neg qx]
  have hx : x = 0 ∨ x = 1 := by
    obtain ⟨a, ha, rfl⟩ := in_row (n := 2) (by omega) (fun z => qx (Or.inl z)) (fun z => qx (((in_pred (n := 2) (by omega)).mpr (Or.inr z))))
    rcases (show a = 0 ∨ a = 1 by omega) with rfl | rfl
    · exact Or.inl rfl
    · exact Or.inr rfl
  refine B_Md_share_11 (fun _ => B_Md_share_18 hM0.1 (md_unlike hM0 hg0 (B_Md_share_30 ?_))) (fun z => absurd z (by decide))
  have eU := shA_8 (K := shK gs m) hg.1 gs.length (Nat.le_refl _)
  have outer : ∀ (c n : Nat) (v10 : Value), 8 - n = c → 1 ≤ n → n ≤ 8 → wpx (d + 3) P_Md_share 35 [.ref 17, .int x, .long (lN (shA (shK gs m) gs m n gs.length)), .retAddr 2, .long (lN (shK gs m ^ (n - 1))), .retAddr 2, .long (lN 1), .retAddr 2, .int (nI (shK gs m)), .int (nI n), v10] [] g Q := by
    intro c
    induction c with
    | zero =>
      intro n v10 hc h1 h8
      have en : n = 8 := by omega
      subst en
      refine B_Md_share_35 (fun _ => B_Md_share_113 ?_) (fun q => absurd ((nI_ltI (a := 7) (b := 8) (by omega) (by omega)).mpr (by omega)) q)
      rw [eU]
      refine md_common (b := shK gs m ^ 7) (by omega) (by omega) (B_Md_share_119 (fun z => B_Md_share_132 (fun y => ?_) (B_Md_share_137 ?_)) (fun z => B_Md_share_125 (fun y => ?_) (B_Md_share_137 ?_)))
      · have := (lN_zero n4).mp y
        omega
      · have e : shR gs m x = lN (shK gs m ^ 7) / lN (Nat.gcd (shU (shK gs m) gs m gs.length) (shK gs m ^ 7)) := by
          unfold shR
          rw [if_neg z, if_pos (hx.resolve_left z)]
        rw [← e]
        exact k
      · have := (lN_zero n4).mp y
        omega
      · have e : shR gs m x = lN (shU (shK gs m) gs m gs.length) / lN (Nat.gcd (shU (shK gs m) gs m gs.length) (shK gs m ^ 7)) := by
          unfold shR
          rw [if_pos z]
        rw [← e]
        exact k
    | succ c ih =>
      intro n v10 hc h1 h8
      refine B_Md_share_35 (fun q => ?_) (fun _ => B_Md_share_42 ?_)
      · have := (nI_ltI (a := 7) (by omega) (by omega)).mp q
        omega
      · rw [nI_to64 (by omega), lN_mulN, lN_mulN, ← Nat.pow_succ, show (n - 1).succ = n by omega]
        have nx := fun v => ih (n + 1) v (by omega) (by omega) (by omega)
        rw [← shA_st h1, show n + 1 - 1 = n by omega] at nx
        have inner : ∀ (e j : Nat), gs.length - j = e → j ≤ gs.length → wpx (d + 3) P_Md_share 59 [.ref 17, .int x, .long (lN (shA (shK gs m) gs m n gs.length * shK gs m + shB gs m n j)), .retAddr 2, .long (lN (shK gs m ^ n)), .retAddr 2, .long (lN 1), .retAddr 2, .int (nI (shK gs m)), .int (nI n), .int (nI j)] [] g Q := by
          intro e
          induction e with
          | zero =>
            intro j he hj
            have ej : j = gs.length := by omega
            subst ej
            refine B_Md_share_59 hM0.1 (fun _ => B_Md_share_107 ?_) (fun q => ?_)
            · rw [nI_1]
              exact nx _
            · rw [hg0.2.1, nI_leI (by omega) (by omega)] at q
              omega
          | succ e ihe =>
            intro j he hj
            have gj : gs[j]? = some gs[j] := List.getElem?_eq_getElem (by omega)
            generalize gs[j] = l at gj
            have el : gs.getD j [] = l := by rw [List.getD_eq_getElem?_getD, gj]; rfl
            obtain ⟨a1, a2, a3⟩ := hg.1.at gj
            have h7 := a1.2
            have nxt := ihe (j + 1) (by omega) (by omega)
            have no : ¬ (inm m j ∧ l.length = n) → wpx (d + 3) P_Md_share 98 [.ref 17, .int x, .long (lN (shA (shK gs m) gs m n gs.length * shK gs m + shB gs m n j)), .retAddr 2, .long (lN (shK gs m ^ n)), .retAddr 2, .long (lN 1), .retAddr 2, .int (nI (shK gs m)), .int (nI n), .int (nI j)] [.long (lN (shA (shK gs m) gs m n gs.length * shK gs m + shB gs m n j))] g Q := fun z => by
              refine B_Md_share_98 (B_Md_share_99 ?_)
              have e : shB gs m n (j + 1) = shB gs m n j := by
                show _ + (if _ then _ else _) = _
                rw [el, if_neg z]
                rfl
              rw [e] at nxt
              rw [nI_1, show (0 : Int64) = lN 0 from rfl, lN_addN, Nat.add_zero]
              exact nxt
            refine B_Md_share_59 hM0.1 (fun q => ?_) (fun _ => B_Md_share_68 hM0.1 ?_)
            · rw [hg0.2.1, nI_leI (by omega) (by omega)] at q
              omega
            · rw [hg0.2.2.1]
              refine md_isOf hm (by omega) (fun q => ?_) (fun q => ?_)
              · refine B_Md_share_78 (fun z => absurd z (by decide)) (fun _ => B_Md_share_81 hM0.1 (mr_size hM0) (ms_size hM0) (vp_in_nI a3 (by omega)) (fun z => ?_) (fun z => ?_))
                · change ¬ h_i g 19 (nI j).toNatClampNeg = nI n at z
                  rw [nI_clamp (by omega), (hg0.2.2.2 j l gj).1, nI_eq (by omega) (by omega)] at z
                  exact no (fun y => z y.2)
                · change h_i g 19 (nI j).toNatClampNeg = nI n at z
                  rw [nI_clamp (by omega), (hg0.2.2.2 j l gj).1, nI_eq (by omega) (by omega)] at z
                  refine B_Md_share_93 (B_Md_share_99 ?_)
                  have e : shB gs m n (j + 1) = shB gs m n j + 1 := by
                    show _ + (if _ then _ else _) = _
                    rw [el, if_pos ⟨q, z⟩]
                  rw [e] at nxt
                  rw [nI_1, lN_addN, Nat.add_assoc]
                  exact nxt
              · exact B_Md_share_78 (fun _ => no (fun y => q y.1)) (fun z => absurd rfl z)
        exact inner _ 0 rfl (Nat.zero_le _)
  have e1 := shA_1 (K := shK gs m) hg.1 gs.length (Nat.le_refl _)
  have := outer 7 1 (.retAddr 0) rfl (by omega) (by omega)
  rw [e1] at this
  exact this
