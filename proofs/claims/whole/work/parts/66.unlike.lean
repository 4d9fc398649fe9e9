/-! which letters there are, and how many -/
def lrow (s : Nat) (l : List Nat) : Nat := l.foldl (fun s x => s ||| 2 ^ (x - 1)) s
/-- the letters of the groups that are in, as bits (a: bit 0) -/
def lset (gs : List (List Nat)) (m : Nat) : Nat → Nat
  | 0 => 0
  | k + 1 => if inm m k then lrow (lset gs m k) (gs.getD k []) else lset gs m k
theorem lrow_lt : ∀ (l : List Nat) (s : Nat), s < 2 ^ 27 → (∀ x ∈ l, 0 < x ∧ x < 28) → lrow s l < 2 ^ 27
  | [], s, hs, _ => hs
  | x :: l, s, hs, hl => by
    have hx := hl x (List.mem_cons_self ..)
    exact lrow_lt l (s ||| 2 ^ (x - 1)) (Nat.or_lt_two_pow hs (Nat.pow_lt_pow_right (by decide) (by omega))) (fun y hy => hl y (List.mem_cons_of_mem _ hy))
theorem getD_ok {gs : List (List Nat)} {m : Nat} (ho : okg gs m) (k : Nat) : okr (gs.getD k []) := by
  rw [List.getD_eq_getElem?_getD]
  cases hk : gs[k]? with
  | none => exact ⟨(fun x hx => by cases hx), Nat.zero_le _⟩
  | some l => exact (ho.at hk).1
theorem lset_lt {gs : List (List Nat)} {m : Nat} (ho : okg gs m) : ∀ k, lset gs m k < 2 ^ 27
  | 0 => by show 0 < 2 ^ 27; decide
  | k + 1 => by
    unfold lset
    split
    · exact lrow_lt _ _ (lset_lt ho k) (getD_ok ho k).1
    · exact lset_lt ho k
theorem two_or (a b : Nat) : 2 * (a ||| b) = 2 * a ||| 2 * b := by
  have := Nat.shiftLeft_or_distrib (a := a) (b := b) (i := 1)
  rw [Nat.shiftLeft_eq, Nat.shiftLeft_eq, Nat.shiftLeft_eq] at this
  rw [Nat.mul_comm 2 (a ||| b), Nat.mul_comm 2 a, Nat.mul_comm 2 b]
  exact this
theorem lrow_take {l : List Nat} {s j x : Nat} (hj : l[j]? = some x) : lrow s (l.take (j + 1)) = lrow s (l.take j) ||| 2 ^ (x - 1) := by
  unfold lrow
  rw [List.take_succ, hj, List.foldl_append]
  rfl
def unlR (gs : List (List Nat)) (m : Nat) : Int32 := nI (max 2 (pop (lset gs m gs.length) 27))
theorem pop_dbl (m : Nat) (n : Nat) : pop (2 * m) (n + 1) = pop m n := by
  rw [Nat.add_comm n 1, pop_add, show 2 * m / 2 ^ 1 = m from by omega, show pop (2 * m) 1 = 0 from by show 0 + 2 * m / 2 ^ 0 % 2 = 0; omega, Nat.zero_add]
theorem pop_zero : ∀ n, pop 0 n = 0
  | 0 => rfl
  | n + 1 => by unfold pop; rw [pop_zero n, Nat.zero_div]
theorem pop_up {m a : Nat} (h : m < 2 ^ a) (b : Nat) : pop m (a + b) = pop m a := by
  rw [pop_add, Nat.div_eq_of_lt h, pop_zero]
  rfl
theorem pop_le (m : Nat) : ∀ n, pop m n ≤ n
  | 0 => Nat.le_refl 0
  | n + 1 => by unfold pop; have := pop_le m n; omega
theorem sgn_at {l : List Nat} {j x : Nat} (hl : okr l) (hj : l[j]? = some x) : sgn l (nI j) = nI x := by
  have h1 := (List.getElem?_eq_some_iff.mp hj).1
  have h7 := hl.2
  unfold sgn
  rw [if_neg (fun e => e.elim (nI_pos (by omega)) (nI_ge (by omega) (by omega))), nI_clamp (by omega), getD_some hj]
theorem gr_unlikeLetters {d : Nat} {h : PH} {Q : PQ} {o : Nat} {gs : List (List Nat)} {m : Nat} (hs : GrS h o) (hg : CGr h o gs m) (k : Q (some (.int (unlR gs m))) h) : wpm (d + 3) 42 [.ref o] h Q := by
  refine wpm_in P_Gr_unlikeLetters rfl (by decide) (by show ¬ 4 < 1; decide) ?_
  refine B_Gr_unlikeLetters_0 ?_
  have h14 := hg.1.1
  have outer : ∀ (c n : Nat) (v : Value), gs.length - n = c → n ≤ gs.length → wpx (d + 2) P_Gr_unlikeLetters 4 [.ref o, .int (nI (2 * lset gs m n)), .int (nI n), v] [] h Q := by
    intro c
    induction c with
    | zero =>
      intro n v hc hn
      refine B_Gr_unlikeLetters_4 hs.1 (fun _ => ?_) (fun q => ?_)
      · have en : n = gs.length := by omega
        subst en
        have lt := lset_lt hg.1 gs.length
        refine B_Gr_unlikeLetters_65 (ji_bitCount (by omega) (B_Gr_unlikeLetters_70 ?_))
        have ep : pop (2 * lset gs m gs.length) 32 = pop (lset gs m gs.length) 27 := by
          rw [pop_dbl (n := 31)]
          exact pop_up lt 4
        have pl := pop_le (lset gs m gs.length) 27
        rw [ep]
        unfold unlR at k
        by_cases z : 2 < pop (lset gs m gs.length) 27
        · rw [if_pos (show (2 : Int32) < nI (pop (lset gs m gs.length) 27) from nI_lt (a := 2) z (by omega))]
          rw [Nat.max_eq_right (by omega)] at k
          exact k
        · rw [if_neg (show ¬ (2 : Int32) < nI (pop (lset gs m gs.length) 27) from nI_nlt (b := pop (lset gs m gs.length) 27) (a := 2) (by omega) (by omega))]
          rw [Nat.max_eq_left (by omega)] at k
          exact k
      · rw [hg.2.1, nI_leI (by omega) (by omega)] at q
        omega
    | succ c ih =>
      intro n v hc hn
      refine B_Gr_unlikeLetters_4 hs.1 (fun q => ?_) (fun _ => ?_)
      · rw [hg.2.1, nI_leI (by omega) (by omega)] at q
        omega
      · refine B_Gr_unlikeLetters_12 ?_
        have hn' : n < gs.length := by omega
        have ga : gs[n]? = some gs[n] := List.getElem?_eq_getElem hn'
        have eD : gs.getD n [] = gs[n] := by rw [List.getD_eq_getElem?_getD, ga]; rfl
        generalize gs[n] = a at ga eD
        obtain ⟨a1, a2, a3⟩ := hg.1.at ga
        have a7 := a1.2
        have va : vp_in (nI n) 14 := vp_in_nI a3 (by omega)
        have lt := lset_lt hg.1 n
        have next : wpx (d + 2) P_Gr_unlikeLetters 59 [.ref o, .int (nI (2 * lset gs m (n + 1))), .int (nI n), .int (nI (if inm m n then a.length else 0))] [] h Q := by
          refine B_Gr_unlikeLetters_59 ?_
          rw [nI_1]
          exact ih (n + 1) _ (by omega) (by omega)
        by_cases hin : inm m n
        · have el : lset gs m (n + 1) = lrow (lset gs m n) a := by
            show (if inm m n then lrow (lset gs m n) (gs.getD n []) else lset gs m n) = _
            rw [if_pos hin, eD]
          rw [if_pos hin, el] at next
          have inner : ∀ (e j : Nat), a.length - j = e → j ≤ a.length → wpx (d + 2) P_Gr_unlikeLetters 14 [.ref o, .int (nI (2 * lrow (lset gs m n) (a.take j))), .int (nI n), .int (nI j)] [] h Q := by
            intro e
            induction e with
            | zero =>
              intro j he hj
              have ej : j = a.length := by omega
              subst ej
              refine B_Gr_unlikeLetters_14 hs.1 hs.2.2.1.1 hs.2.2.1.2 va (fun _ => ?_) (fun q => ?_)
              · rw [List.take_length]
                exact next
              · rw [nI_clamp (by omega), (hg.2.2.2 n a ga).2] at q
                exact absurd (nI_le (Nat.le_refl _) (by omega)) q
            | succ e ihe =>
              intro j he hj
              refine B_Gr_unlikeLetters_14 hs.1 hs.2.2.1.1 hs.2.2.1.2 va (fun q => ?_) (fun _ => ?_)
              · rw [nI_clamp (by omega), (hg.2.2.2 n a ga).2, nI_leI (by omega) (by omega)] at q
                omega
              · refine B_Gr_unlikeLetters_24 hs.1 (gr_isIn hs hg hn' (fun _ => ?_) (fun w => absurd hin w))
                refine B_Gr_unlikeLetters_29 (fun z => absurd z (by decide)) (fun _ => ?_)
                refine B_Gr_unlikeLetters_32 hs.1 hs.2.1.1 hs.2.1.2 va hs.2.2.1.1 hs.2.2.1.2 va ?_
                rw [nI_clamp (by omega), (hg.2.2.2 n a ga).1, (hg.2.2.2 n a ga).2]
                refine ow_signOf a1 ?_
                have gj : a[j]? = some a[j] := List.getElem?_eq_getElem (by omega)
                rw [sgn_at a1 gj]
                have hx := a1.1 _ (List.mem_of_getElem? gj)
                have lr := lrow_lt (a.take j) (lset gs m n) lt (fun x hx => a1.1 x (List.mem_of_mem_take hx))
                have ltk := lrow_take (s := lset gs m n) gj
                generalize a[j] = x at gj hx ltk
                refine B_Gr_unlikeLetters_50 ?_
                have hp : 2 ^ x < 2 ^ 28 := Nat.pow_lt_pow_right (by decide) hx.2
                rw [show (1 : Int32) = nI 1 from rfl, pk_shlN (n := 1) (nI x &&& 31) x (sh_s x (by omega)) (by omega), nI_orN (by omega) (by omega), show nI j + nI 1 = nI (j + 1) from nI_add ..]
                have e2 : 2 * lrow (lset gs m n) (a.take j) ||| 1 * 2 ^ x = 2 * lrow (lset gs m n) (a.take (j + 1)) := by
                  rw [ltk, two_or]
                  congr 1
                  have : 2 ^ x = 2 * 2 ^ (x - 1) := by rw [← Nat.pow_succ']; congr 1; omega
                  omega
                rw [e2]
                exact ihe (j + 1) (by omega) (by omega)
          exact inner _ 0 rfl (by omega)
        · have el : lset gs m (n + 1) = lset gs m n := by
            show (if inm m n then lrow (lset gs m n) (gs.getD n []) else lset gs m n) = _
            rw [if_neg hin]
          rw [if_neg hin, el] at next
          refine B_Gr_unlikeLetters_14 hs.1 hs.2.2.1.1 hs.2.2.1.2 va (fun q => ?_) (fun _ => ?_)
          · rw [nI_clamp (by omega), (hg.2.2.2 n a ga).2] at q
            exact absurd q (nI_nle a2 (by omega))
          · refine B_Gr_unlikeLetters_24 hs.1 (gr_isIn hs hg hn' (fun w => absurd w hin) (fun _ => ?_))
            exact B_Gr_unlikeLetters_29 (fun _ => next) (fun z => absurd rfl z)
  exact outer _ 0 _ rfl (Nat.zero_le _)
theorem md_lettersThere {d : Nat} {h : PH} {Q : PQ} {gs : List (List Nat)} {m : Nat} (hM : MdS h) (hg : MGr h gs m) (k : Q (some (.int (nI (lset gs m gs.length)))) h) : wpm (d + 2) 198 [.ref 17] h Q := by
  refine wpm_in P_Md_lettersThere rfl (by decide) (by show ¬ 4 < 1; decide) ?_
  refine B_Md_lettersThere_0 ?_
  have h14 := hg.1.1
  have outer : ∀ (c n : Nat) (v : Value), gs.length - n = c → n ≤ gs.length → wpx (d + 1) P_Md_lettersThere 4 [.ref 17, .int (nI (lset gs m n)), .int (nI n), v] [] h Q := by
    intro c
    induction c with
    | zero =>
      intro n v hc hn
      refine B_Md_lettersThere_4 hM.1 (fun _ => ?_) (fun q => ?_)
      · have en : n = gs.length := by omega
        subst en
        exact B_Md_lettersThere_61 k
      · rw [hg.2.1, nI_leI (by omega) (by omega)] at q
        omega
    | succ c ih =>
      intro n v hc hn
      refine B_Md_lettersThere_4 hM.1 (fun q => ?_) (fun _ => ?_)
      · rw [hg.2.1, nI_leI (by omega) (by omega)] at q
        omega
      · refine B_Md_lettersThere_12 ?_
        have hn' : n < gs.length := by omega
        have ga : gs[n]? = some gs[n] := List.getElem?_eq_getElem hn'
        have eD : gs.getD n [] = gs[n] := by rw [List.getD_eq_getElem?_getD, ga]; rfl
        generalize gs[n] = a at ga eD
        obtain ⟨a1, a2, a3⟩ := hg.1.at ga
        have a7 := a1.2
        have va : vp_in (nI n) 14 := vp_in_nI a3 (by omega)
        have lt := lset_lt hg.1 n
        have next : wpx (d + 1) P_Md_lettersThere 55 [.ref 17, .int (nI (lset gs m (n + 1))), .int (nI n), .int (nI (if inm m n then a.length else 0))] [] h Q := by
          refine B_Md_lettersThere_55 ?_
          rw [nI_1]
          exact ih (n + 1) _ (by omega) (by omega)
        by_cases hin : inm m n
        · have el : lset gs m (n + 1) = lrow (lset gs m n) a := by
            show (if inm m n then lrow (lset gs m n) (gs.getD n []) else lset gs m n) = _
            rw [if_pos hin, eD]
          rw [if_pos hin, el] at next
          have inner : ∀ (e j : Nat), a.length - j = e → j ≤ a.length → wpx (d + 1) P_Md_lettersThere 14 [.ref 17, .int (nI (lrow (lset gs m n) (a.take j))), .int (nI n), .int (nI j)] [] h Q := by
            intro e
            induction e with
            | zero =>
              intro j he hj
              have ej : j = a.length := by omega
              subst ej
              refine B_Md_lettersThere_14 hM.1 (mr_size hM) (ms_size hM) va (fun _ => ?_) (fun q => ?_)
              · rw [List.take_length]
                exact next
              · rw [nI_clamp (by omega), (hg.2.2.2 n a ga).1] at q
                exact absurd (nI_le (Nat.le_refl _) (by omega)) q
            | succ e ihe =>
              intro j he hj
              refine B_Md_lettersThere_14 hM.1 (mr_size hM) (ms_size hM) va (fun q => ?_) (fun _ => ?_)
              · rw [nI_clamp (by omega), (hg.2.2.2 n a ga).1, nI_leI (by omega) (by omega)] at q
                omega
              · refine B_Md_lettersThere_24 hM.1 ?_
                rw [hg.2.2.1]
                refine md_isOf hg.1.m31 (by omega) (fun _ => ?_) (fun w => absurd hin w)
                refine B_Md_lettersThere_32 (fun z => absurd z (by decide)) (fun _ => ?_)
                refine B_Md_lettersThere_35 hM.1 (md_letterAt hM (by omega) ?_)
                have gj : a[j]? = some a[j] := List.getElem?_eq_getElem (by omega)
                rw [(hg.2.2.2 n a ga).2 _ _ gj]
                have hx := a1.1 _ (List.mem_of_getElem? gj)
                have lr := lrow_lt (a.take j) (lset gs m n) lt (fun x hx => a1.1 x (List.mem_of_mem_take hx))
                have ltk := lrow_take (s := lset gs m n) gj
                generalize a[j] = x at gj hx ltk
                refine B_Md_lettersThere_43 ?_
                have hp : 2 ^ (x - 1) < 2 ^ 28 := Nat.pow_lt_pow_right (by decide) (by omega)
                rw [show (97 : Int32) = nI 97 from rfl, nI_subN (by omega), show x + 96 - 97 = x - 1 from by omega, show (1 : Int32) = nI 1 from rfl, pk_shlN (n := 1) (nI (x - 1) &&& 31) (x - 1) (sh_s (x - 1) (by omega)) (by omega), nI_orN (by omega) (by omega), show nI j + nI 1 = nI (j + 1) from nI_add .., Nat.one_mul, ← ltk]
                exact ihe (j + 1) (by omega) (by omega)
          exact inner _ 0 rfl (by omega)
        · have el : lset gs m (n + 1) = lset gs m n := by
            show (if inm m n then lrow (lset gs m n) (gs.getD n []) else lset gs m n) = _
            rw [if_neg hin]
          rw [if_neg hin, el] at next
          refine B_Md_lettersThere_14 hM.1 (mr_size hM) (ms_size hM) va (fun q => ?_) (fun _ => ?_)
          · rw [nI_clamp (by omega), (hg.2.2.2 n a ga).1] at q
            exact absurd q (nI_nle a2 (by omega))
          · refine B_Md_lettersThere_24 hM.1 ?_
            rw [hg.2.2.1]
            refine md_isOf hg.1.m31 (by omega) (fun w => absurd w hin) (fun _ => ?_)
            exact B_Md_lettersThere_32 (fun _ => next) (fun z => absurd rfl z)
  exact outer _ 0 _ rfl (Nat.zero_le _)
theorem bit_mN {m k : Nat} (hm : m < 2 ^ 31) (hk : k < 32) : ((nI m >>> (nI k &&& 31)) &&& (1 : Int32)) = nI (m / 2 ^ k % 2) := by
  rw [pk_shrN hm (nI k &&& 31) k (sh_s k hk), nI_and1]
theorem md_unlike {d : Nat} {h : PH} {Q : PQ} {gs : List (List Nat)} {m : Nat} (hM : MdS h) (hg : MGr h gs m) (k : Q (some (.int (unlR gs m))) h) : wpm (d + 3) 199 [.ref 17] h Q := by
  refine wpm_in P_Md_unlike rfl (by decide) (by show ¬ 3 < 1; decide) ?_
  refine B_Md_unlike_0 ?_
  have lt := lset_lt hg.1 gs.length
  have loop : ∀ (c n : Nat), 27 - n = c → n ≤ 27 → wpx (d + 2) P_Md_unlike 4 [.ref 17, .int (nI (pop (lset gs m gs.length) n)), .int (nI n)] [] h Q := by
    intro c
    induction c with
    | zero =>
      intro n hc hn
      have en : n = 27 := by omega
      subst en
      have pl := pop_le (lset gs m gs.length) 27
      unfold unlR at k
      refine B_Md_unlike_4 (fun _ => ?_) (fun q => absurd (by decide) q)
      refine B_Md_unlike_27 (fun q => ?_) (fun q => ?_)
      · have q := (nI_leI (a := 2) (by omega) (by omega)).mp q
        rw [Nat.max_eq_right q] at k
        exact B_Md_unlike_36 (B_Md_unlike_37 k)
      · have q : ¬ 2 ≤ pop (lset gs m gs.length) 27 := fun e => q (nI_le (a := 2) e (by omega))
        rw [Nat.max_eq_left (by omega)] at k
        exact B_Md_unlike_32 (B_Md_unlike_37 k)
    | succ c ih =>
      intro n hc hn
      refine B_Md_unlike_4 (fun q => ?_) (fun _ => ?_)
      · have q := (nI_leI (a := 27) (by omega) (by omega)).mp q
        omega
      · refine B_Md_unlike_10 hM.1 (md_lettersThere hM hg (B_Md_unlike_15 ?_))
        rw [bit_mN (by omega) (by omega), nI_add, nI_1]
        exact ih (n + 1) (by omega) (by omega)
  exact loop _ 0 rfl (by omega)
