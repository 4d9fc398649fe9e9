/-! runs with Arrays.fill at a stroke -/
theorem wri_id (h : PH) (a : Nat) : w_ri h a (h_i h a) = h := by
  obtain ⟨x1, x2, x3, x4, x5, x6, x7⟩ := h
  show (x1, upr x2 a (x2 a), x3, x4, x5, x6, x7) = _
  have : upr x2 a (x2 a) = x2 := by
    funext c
    by_cases hc : c = a
    · subst hc; exact upr_row _ _ _
    · exact upr_ne _ _ hc
  rw [this]
theorem wi_wri (h : PH) (a k : Nat) (g : Nat → Int32) (v : Int32) : w_i (w_ri h a g) a k v = w_ri h a (fun j => if j = k then v else g j) := by
  show (h_sh h, up2 (upr (h_i h) a g) a k v, h_l h, h_r h, h_ct h, h_sl h, h_sc h) = (h_sh h, upr (h_i h) a (fun j => if j = k then v else g j), h_l h, h_r h, h_ct h, h_sl h, h_sc h)
  have : up2 (upr (h_i h) a g) a k v = upr (h_i h) a (fun j => if j = k then v else g j) := by
    funext c
    by_cases hc : c = a
    · subst hc
      rw [up2_row, upr_row, upr_row]
    · rw [up2_ne _ _ _ hc, upr_ne _ _ hc, upr_ne _ _ hc]
  rw [this]
def flr (h : PH) (a : Nat) (v : Int32) (n : Nat) : PH := w_ri h a (fun k => if k < n then v else h_i h a k)
theorem flr_0 (h : PH) (a : Nat) (v : Int32) : flr h a v 0 = h := by
  unfold flr
  rw [show (fun k => if k < 0 then v else h_i h a k) = h_i h a by funext k; rw [if_neg (Nat.not_lt_zero k)]]
  exact wri_id h a
theorem flr_s (h : PH) (a : Nat) (v : Int32) (i : Nat) : w_i (flr h a v i) a i v = flr h a v (i + 1) := by
  unfold flr
  rw [wi_wri]
  congr 1
  funext j
  by_cases h1 : j = i
  · subst h1; rw [if_pos rfl, if_pos (Nat.lt_succ_self j)]
  · rw [if_neg h1]
    by_cases h2 : j < i
    · rw [if_pos h2, if_pos (by omega)]
    · rw [if_neg h2, if_neg (by omega)]
theorem fill_I {d a n : Nat} {v : Int32} {h : PH} (hs : h_sh h a = some (1, n)) (hn : n < 100000) : wpm (d + 1) 283 [.ref a, .int v] h (fun r h' => r = none ∧ h' = flr h a v n) := by
  refine wpm_in P_Ja_fillI rfl (by decide) (by show ¬ 4 < 2; decide) ?_
  refine B_Ja_fillI_0 hs ?_
  have loop : ∀ c i, n - i = c → i ≤ n → wpx d P_Ja_fillI 5 [.ref a, .int v, .int (nI i), .int (nI n)] [] (flr h a v i) (fun r h' => r = none ∧ h' = flr h a v n) := by
    intro c
    induction c with
    | zero =>
      intro i hi hin
      refine B_Ja_fillI_5 (fun _ => ?_) (fun q => ?_)
      · refine B_Ja_fillI_20 ?_
        rw [show i = n by omega]
        exact ⟨rfl, rfl⟩
      · rw [nI_leI (by omega) (by omega)] at q
        omega
    | succ c ih =>
      intro i hi hin
      refine B_Ja_fillI_5 (fun q => ?_) (fun _ => ?_)
      · rw [nI_leI (by omega) (by omega)] at q
        omega
      · refine B_Ja_fillI_10 (n0 := n) hs (vp_in_nI (by omega) (by omega)) ?_
        rw [nI_clamp (by omega), flr_s]
        have := ih (i + 1) (by omega) (by omega)
        rw [← nI_add] at this
        exact this
  have := loop n 0 (by omega) (by omega)
  rw [flr_0] at this
  exact this
theorem fill_Z {d a n : Nat} {v : Int32} {h : PH} (hs : h_sh h a = some (3, n)) (hn : n < 100000) (hv : nI n ≤ v) : wpm (d + 1) 161 [.ref a, .int v] h (fun r h' => r = none ∧ h' = flr h a 0 n) := by
  refine wpm_in P_Ow_lower rfl (by decide) (by show ¬ 3 < 2; decide) ?_
  refine B_Ow_lower_0 ?_
  have loop : ∀ c i, n - i = c → i ≤ n → wpx d P_Ow_lower 2 [.ref a, .int v, .int (nI i)] [] (flr h a 0 i) (fun r h' => r = none ∧ h' = flr h a 0 n) := by
    intro c
    induction c with
    | zero =>
      intro i hi hin
      have e : i = n := by omega
      subst e
      refine B_Ow_lower_2 (fun _ => B_Ow_lower_23 ⟨rfl, rfl⟩) (fun _ => ?_)
      refine B_Ow_lower_7 (n0 := i) hs (fun _ => B_Ow_lower_23 ⟨rfl, rfl⟩) (fun q => absurd (Int32.le_refl _) q)
    | succ c ih =>
      intro i hi hin
      refine B_Ow_lower_2 (fun q => ?_) (fun _ => ?_)
      · have q2 : nI n ≤ nI i := Int32.le_trans hv q
        rw [nI_leI (by omega) (by omega)] at q2
        omega
      · refine B_Ow_lower_7 (n0 := n) hs (fun q => ?_) (fun _ => ?_)
        · have q2 : nI n ≤ nI i := q
          rw [nI_leI (by omega) (by omega)] at q2
          omega
        · refine B_Ow_lower_13 (n0 := n) hs (vp_in_nI (by omega) (by omega)) ?_
          rw [nI_clamp (by omega), show ((0 : Int32) &&& 1) = 0 by decide, flr_s]
          have := ih (i + 1) (by omega) (by omega)
          rw [← nI_add] at this
          exact this
  have := loop n 0 (by omega) (by omega)
  rw [flr_0] at this
  exact this
def fx_fill (id : Nat) (args : List Value) (h : PH) : PRes := match args with
  | [.ref a, .int v] => if id = 283 then (match h_sh h a with
      | some (1, n) => if n < 100000 then some (none, flr h a v n) else none
      | _ => none)
    else if id = 161 then (match h_sh h a with
      | some (3, n) => if n < 100000 ∧ nI n ≤ v then some (none, flr h a 0 n) else none
      | _ => none)
    else none
  | _ => none
def fx_run : Nat → Nat → PCall
  | 0, _ => fun _ _ _ => none
  | d + 1, n => fun id args h => match fx_fill id args h with
    | some r => some r
    | none => if m_o (mOf id) = 13 ∨ m_L (mOf id) < (args.flatMap ent1).length then none else px_exec mOf (fx_run d n) (mOf id) n 0 (ents (m_L (mOf id)) args) [] h
theorem fx_ex {d : Nat} {call : PCall} (hc : ∀ id a h r, call id a h = some r → wpm d id a h (fun x y => (x, y) = r)) (M : PM) : ∀ (n pc : Nat) (ls st : List Value) (h : PH) (r : Option Value × PH), px_exec mOf call M n pc ls st h = some r → wpx d M pc ls st h (fun x y => (x, y) = r) := by
  intro n
  induction n with
  | zero => intro pc ls st h r he; cases he
  | succ n ih =>
    intro pc ls st h r he
    unfold px_exec at he
    cases hi : (m_code M)[pc]? with
    | none => rw [hi] at he; cases he
    | some i =>
      rw [hi] at he
      dsimp only at he
      by_cases hlt : i.1 < 100
      · rw [if_pos hlt] at he
        cases hq : HS[i.1]? with
        | none => rw [hq] at he; cases he
        | some q =>
          rw [hq] at he
          dsimp only at he
          cases hr : q.2 i pc ls st h with
          | none => rw [hr] at he; cases he
          | some r1 =>
            rw [hr] at he
            dsimp only at he
            by_cases hle : h_leB h r1.2.2.2 = true
            · rw [if_pos hle] at he
              exact wpx_step hi hlt hq hr hle (ih _ _ _ _ _ he)
            · rw [if_neg hle] at he; cases he
      · rw [if_neg hlt] at he
        by_cases h110 : i.1 = 110
        · rw [if_pos h110] at he
          split at he
          next hcond =>
            cases hr : call (p_b i) (st.take (p_c i)).reverse h with
            | none => rw [hr] at he; cases he
            | some r1 =>
              rw [hr] at he
              dsimp only at he
              by_cases hle : h_leB h r1.2 = true
              · rw [if_pos hle] at he
                refine wpx_call' hi h110 hcond.1 rfl rfl hcond.2.1 hcond.2.2 ((hc _ _ _ _ hr).mono ?_)
                intro x y hxy
                subst hxy
                exact ih _ _ _ _ _ he
              · rw [if_neg hle] at he; cases he
          · cases he
        · rw [if_neg h110] at he
          have hh : r.2 = h := by
            unfold px_ret at he
            split at he
            · split at he
              · split at he
                · cases he; rfl
                · cases he
              · cases he
            · cases he; rfl
            · cases he; rfl
            · cases he; rfl
            · cases he
          obtain ⟨r1, r2⟩ := r
          dsimp only at hh
          subst hh
          exact wpx_ret hi hlt h110 he rfl
theorem fx_ok (n : Nat) : ∀ (d id : Nat) (a : List Value) (h : PH) (r : Option Value × PH), fx_run d n id a h = some r → wpm d id a h (fun x y => (x, y) = r) := by
  intro d
  induction d with
  | zero => intro id a h r he; cases he
  | succ d ih =>
    intro id a h r he
    unfold fx_run at he
    cases hf : fx_fill id a h with
    | some r1 =>
      rw [hf] at he
      cases he
      unfold fx_fill at hf
      split at hf
      next a0 v =>
        split at hf
        next hid =>
          subst hid
          split at hf
          next n0 hs =>
            split at hf
            next hn =>
              cases hf
              refine (fill_I hs hn).mono ?_
              rintro x y ⟨rfl, rfl⟩
              rfl
            · cases hf
          · cases hf
        · split at hf
          next hid =>
            subst hid
            split at hf
            next n0 hs =>
              split at hf
              next hn =>
                cases hf
                refine (fill_Z hs hn.1 hn.2).mono ?_
                rintro x y ⟨rfl, rfl⟩
                rfl
              · cases hf
            · cases hf
          · cases hf
      · cases hf
    | none =>
      rw [hf] at he
      dsimp only at he
      split at he
      · cases he
      next hcd =>
        have := fx_ex (d := d) ih (mOf id) _ _ _ _ _ _ he
        obtain ⟨m, x, h1, h2⟩ := this
        refine ⟨m, x, ?_, h2⟩
        unfold px_run
        rw [if_neg hcd]
        exact h1
/-- from a heap that is known to the same with the script -/
theorem fx_sc {d n id : Nat} {args : List Value} {h : PH} {s : Nat × (Nat → Int32)} {Q : PQ} {r : Option Value × PH} (e : fx_run d n id args h = some r) (q : Q r.1 (sets r.2 s)) : wpm d id args (sets h s) Q := by
  obtain ⟨m, x, h1, h2⟩ := fx_ok n d id args h r e
  cases h2
  exact ⟨m, _, run_sc m d id args h s _ h1, q⟩
