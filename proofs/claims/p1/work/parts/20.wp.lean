/-! weakest starts: a run of the pure machine from a state, with what must hold at its end -/
abbrev PQ : Type := Option Value → PH → Prop
theorem exec_le {call call' : PCall} {M : PM} (hc : ∀ id a h r, call id a h = some r → call' id a h = some r) : ∀ (n n' pc : Nat) (ls st : List Value) (h : PH) (r : Option Value × PH), n ≤ n' → px_exec mOf call M n pc ls st h = some r → px_exec mOf call' M n' pc ls st h = some r := by
  intro n
  induction n with
  | zero => intro n' pc ls st h r _ he; cases he
  | succ n ih =>
    intro n' pc ls st h r hn he
    obtain ⟨n1, rfl⟩ : ∃ n1, n' = n1 + 1 := ⟨n' - 1, by omega⟩
    unfold px_exec at he ⊢
    cases hi : (m_code M)[pc]? with
    | none => rw [hi] at he; cases he
    | some i =>
      rw [hi] at he
      dsimp only at he ⊢
      by_cases hlt : i.1 < 100
      · rw [if_pos hlt] at he ⊢
        cases hq : HS[i.1]? with
        | none => rw [hq] at he; cases he
        | some q =>
          rw [hq] at he
          dsimp only at he ⊢
          cases hr : q.2 i pc ls st h with
          | none => rw [hr] at he; cases he
          | some r1 =>
            rw [hr] at he
            dsimp only at he ⊢
            by_cases hle : h_leB h r1.2.2.2 = true
            · rw [if_pos hle] at he ⊢
              exact ih _ _ _ _ _ _ (by omega) he
            · rw [if_neg hle] at he; cases he
      · rw [if_neg hlt] at he ⊢
        by_cases h110 : i.1 = 110
        · rw [if_pos h110] at he ⊢
          split at he
          next hcond =>
            rw [if_pos hcond]
            cases hr : call (p_b i) (st.take (p_c i)).reverse h with
            | none => rw [hr] at he; cases he
            | some r1 =>
              rw [hr] at he
              rw [hc _ _ _ _ hr]
              dsimp only at he ⊢
              by_cases hle : h_leB h r1.2 = true
              · rw [if_pos hle] at he ⊢
                exact ih _ _ _ _ _ _ (by omega) he
              · rw [if_neg hle] at he; cases he
          · cases he
        · rw [if_neg h110] at he ⊢
          exact he
theorem run_le {n n' : Nat} (hn : n ≤ n') : ∀ (d id : Nat) (a : List Value) (h : PH) (r : Option Value × PH), px_run mOf d n id a h = some r → px_run mOf d n' id a h = some r := by
  intro d
  induction d with
  | zero => intro id a h r he; cases he
  | succ d ih =>
    intro id a h r he
    unfold px_run at he ⊢
    split at he
    · cases he
    next hc =>
      rw [if_neg hc]
      exact exec_le ih _ _ _ _ _ _ _ hn he
def wpx (d : Nat) (M : PM) (pc : Nat) (ls st : List Value) (h : PH) (Q : PQ) : Prop := ∃ (n : Nat) (r : Option Value × PH), px_exec mOf (px_run mOf d n) M n pc ls st h = some r ∧ Q r.1 r.2
def wpm (d id : Nat) (args : List Value) (h : PH) (Q : PQ) : Prop := ∃ (n : Nat) (r : Option Value × PH), px_run mOf d n id args h = some r ∧ Q r.1 r.2
theorem wpm.mono {d id : Nat} {args : List Value} {h : PH} {Q Q' : PQ} (w : wpm d id args h Q) (hq : ∀ r h', Q r h' → Q' r h') : wpm d id args h Q' := by
  obtain ⟨n, r, h1, h2⟩ := w
  exact ⟨n, r, h1, hq _ _ h2⟩
theorem wpx.mono {d : Nat} {M : PM} {pc : Nat} {ls st : List Value} {h : PH} {Q Q' : PQ} (w : wpx d M pc ls st h Q) (hq : ∀ r h', Q r h' → Q' r h') : wpx d M pc ls st h Q' := by
  obtain ⟨n, r, h1, h2⟩ := w
  exact ⟨n, r, h1, hq _ _ h2⟩
theorem wpx_step {d : Nat} {M : PM} {pc : Nat} {ls st : List Value} {h : PH} {Q : PQ} {i : PI} {q : PChk × PSem} {r : PS} (hi : (m_code M)[pc]? = some i) (hlt : i.1 < 100) (hq : HS[i.1]? = some q) (hs : q.2 i pc ls st h = some r) (hle : h_leB h r.2.2.2 = true) (k : wpx d M r.1 r.2.1 r.2.2.1 r.2.2.2 Q) : wpx d M pc ls st h Q := by
  obtain ⟨n, x, h1, h2⟩ := k
  refine ⟨n + 1, x, ?_, h2⟩
  unfold px_exec
  rw [hi]
  dsimp only
  rw [if_pos hlt, hq]
  dsimp only
  rw [hs]
  dsimp only
  rw [if_pos hle]
  exact exec_le (run_le (Nat.le_succ n) d) _ _ _ _ _ _ _ (Nat.le_refl n) h1
theorem leB_refl (h : PH) : h_leB h h = true := decide_eq_true ⟨Nat.le_refl _, Nat.le_refl _⟩
/-- a step that leaves the heap -/
theorem wpx_st {d : Nat} {M : PM} {pc : Nat} {ls st : List Value} {h : PH} {Q : PQ} {i : PI} {q : PChk × PSem} {pc' : Nat} {ls' st' : List Value} (hi : (m_code M)[pc]? = some i) (hlt : i.1 < 100) (hq : HS[i.1]? = some q) (hs : q.2 i pc ls st h = some (pc', ls', st', h)) (k : wpx d M pc' ls' st' h Q) : wpx d M pc ls st h Q :=
  wpx_step hi hlt hq hs (leB_refl h) k
theorem wpx_call {d : Nat} {M : PM} {pc : Nat} {ls st : List Value} {h : PH} {Q : PQ} {i : PI} (hi : (m_code M)[pc]? = some i) (h110 : i.1 = 110) {as rest : List Value} (h1 : p_c i ≤ st.length) (has : (st.take (p_c i)).reverse = as) (hrest : st.drop (p_c i) = rest) (h4 : rest.length ≤ 4) (hrv : recvOK (m_kd (mOf (p_b i))) (m_o (mOf (p_b i))) h as = true)
    (k : wpm d (p_b i) as h (fun r h' => h_leB h h' = true ∧ wpx d M (pc + 3) ls (r.toList ++ rest) h' Q)) : wpx d M pc ls st h Q := by
  obtain ⟨n, r, g1, g2, n2, x, g3, g4⟩ := k
  subst has
  subst hrest
  refine ⟨max n n2 + 1, x, ?_, g4⟩
  unfold px_exec
  rw [hi]
  dsimp only
  rw [if_neg (by omega), if_pos h110, if_pos ⟨h1, h4, hrv⟩, run_le (Nat.le_trans (Nat.le_max_left n n2) (Nat.le_succ _)) d _ _ _ _ g1]
  dsimp only
  rw [if_pos g2]
  exact exec_le (run_le (Nat.le_trans (Nat.le_max_right n n2) (Nat.le_succ _)) d) _ _ _ _ _ _ _ (Nat.le_max_right n n2) g3
theorem run_mono {n d id : Nat} {a : List Value} {h : PH} {r : Option Value × PH} (he : px_run mOf d n id a h = some r) : h_leB h r.2 = true := by
  cases d with
  | zero => cases he
  | succ d =>
    unfold px_run at he
    split at he
    · cases he
    · exact decide_eq_true (px_mono _ _ _ _ _ _ _ _ _ he)
theorem wpx_call' {d : Nat} {M : PM} {pc : Nat} {ls st : List Value} {h : PH} {Q : PQ} {i : PI} (hi : (m_code M)[pc]? = some i) (h110 : i.1 = 110) {as rest : List Value} (h1 : p_c i ≤ st.length) (has : (st.take (p_c i)).reverse = as) (hrest : st.drop (p_c i) = rest) (h4 : rest.length ≤ 4) (hrv : recvOK (m_kd (mOf (p_b i))) (m_o (mOf (p_b i))) h as = true)
    (k : wpm d (p_b i) as h (fun r h' => wpx d M (pc + 3) ls (r.toList ++ rest) h' Q)) : wpx d M pc ls st h Q := by
  refine wpx_call hi h110 h1 has hrest h4 hrv ?_
  obtain ⟨n, r, g1, g2⟩ := k
  exact ⟨n, r, g1, run_mono g1, g2⟩
theorem wpm_in {d id : Nat} {args : List Value} {h : PH} {Q : PQ} (M : PM) (hM : mOf id = M) (h13 : m_o M ≠ 13) (hl : ¬ m_L M < (args.flatMap ent1).length) (k : wpx d M 0 (ents (m_L M) args) [] h Q) : wpm (d + 1) id args h Q := by
  obtain ⟨n, r, h1, h2⟩ := k
  refine ⟨n, r, ?_, h2⟩
  unfold px_run
  rw [hM, if_neg (fun q => q.elim h13 hl)]
  exact h1
theorem wpx_ret {d : Nat} {M : PM} {pc : Nat} {ls st : List Value} {h : PH} {Q : PQ} {i : PI} {r : Option Value} (hi : (m_code M)[pc]? = some i) (h1 : ¬ i.1 < 100) (h2 : ¬ i.1 = 110) (he : px_ret M i st h = some (r, h)) (hq : Q r h) : wpx d M pc ls st h Q := by
  refine ⟨1, (r, h), ?_, hq⟩
  unfold px_exec
  rw [hi]
  dsimp only
  rw [if_neg h1, if_neg h2]
  exact he
/-- branches -/
theorem wpx_if {d : Nat} {M : PM} {pc : Nat} {ls st : List Value} {h : PH} {Q : PQ} {i : PI} {q : PChk × PSem} {c : Prop} [Decidable c] {t f : Nat} {st' : List Value} (hi : (m_code M)[pc]? = some i) (hlt : i.1 < 100) (hq : HS[i.1]? = some q) (hs : q.2 i pc ls st h = some (if c then t else f, ls, st', h)) (kt : c → wpx d M t ls st' h Q) (kf : ¬ c → wpx d M f ls st' h Q) : wpx d M pc ls st h Q := by
  by_cases hc : c
  · rw [if_pos hc] at hs
    exact wpx_st hi hlt hq hs (kt hc)
  · rw [if_neg hc] at hs
    exact wpx_st hi hlt hq hs (kf hc)
/-- the heap -/
theorem h_i_wi (h : PH) (c k : Nat) (v : Int32) (c' k' : Nat) : h_i (w_i h c k v) c' k' = if c' = c ∧ k' = k then v else h_i h c' k' := by
  simp only [h_i, w_i, up2]
  by_cases h1 : c' = c <;> by_cases h2 : k' = k <;> simp [h1, h2]
theorem h_l_wl (h : PH) (c k : Nat) (v : Int64) (c' k' : Nat) : h_l (w_l h c k v) c' k' = if c' = c ∧ k' = k then v else h_l h c' k' := by
  simp only [h_l, w_l, up2]
  by_cases h1 : c' = c <;> by_cases h2 : k' = k <;> simp [h1, h2]
theorem h_r_wr (h : PH) (c k : Nat) (v : Option Nat) (c' k' : Nat) : h_r (w_r h c k v) c' k' = if c' = c ∧ k' = k then v else h_r h c' k' := by
  simp only [h_r, w_r, up2]
  by_cases h1 : c' = c <;> by_cases h2 : k' = k <;> simp [h1, h2]
section STH
variable {d : Nat} {M : PM} {pc pc' : Nat} {ls st : List Value} {h : PH} {Q : PQ}
theorem st_iaload {a n : Nat} {x : Int32} (hi : (m_code M)[pc]? = some (58, 1, 0, 0, 0, 0)) (hs : h_sh h a = some (1, n)) (hin : vp_in x n) {j : Nat} (hj : x.toNatClampNeg = j) (hp : pc + 1 = pc') (k : wpx d M pc' ls (.int (h_i h a j) :: st) h Q) : wpx d M pc ls (.int x :: .ref a :: st) h Q := by
  subst hp
  subst hj
  exact wpx_st (q := (c_iaload, s_iaload)) hi (Nat.le_of_ble_eq_true rfl) rfl (by simp only [s_iaload, hs]; rw [if_neg hin]) k
theorem st_laload {a n : Nat} {x : Int32} (hi : (m_code M)[pc]? = some (59, 1, 0, 0, 0, 0)) (hs : h_sh h a = some (4, n)) (hin : vp_in x n) {j : Nat} (hj : x.toNatClampNeg = j) (hp : pc + 1 = pc') (k : wpx d M pc' ls (.long (h_l h a j) :: st) h Q) : wpx d M pc ls (.int x :: .ref a :: st) h Q := by
  subst hp
  subst hj
  exact wpx_st (q := (c_laload, s_laload)) hi (Nat.le_of_ble_eq_true rfl) rfl (by simp only [s_laload, hs]; rw [if_neg hin]) k
theorem st_baload {a n : Nat} {x : Int32} (hi : (m_code M)[pc]? = some (60, 1, 0, 0, 0, 0)) (hs : h_sh h a = some (2, n) ∨ h_sh h a = some (3, n)) (hin : vp_in x n) {j : Nat} (hj : x.toNatClampNeg = j) (hp : pc + 1 = pc') (k : wpx d M pc' ls (.int (h_i h a j) :: st) h Q) : wpx d M pc ls (.int x :: .ref a :: st) h Q := by
  subst hp
  subst hj
  exact wpx_st (q := (c_baload, s_baload)) hi (Nat.le_of_ble_eq_true rfl) rfl (by rcases hs with hs | hs <;> (simp only [s_baload, hs]; rw [if_neg hin])) k
theorem st_alen {a n kd : Nat} (hi : (m_code M)[pc]? = some (61, 1, 0, 0, 0, 0)) (hs : h_sh h a = some (kd, n)) (hk : kd = 1 ∨ kd = 2 ∨ kd = 3 ∨ kd = 4) (hp : pc + 1 = pc') (k : wpx d M pc' ls (.int (Int32.ofNat n) :: st) h Q) : wpx d M pc ls (.ref a :: st) h Q := by
  subst hp
  exact wpx_st (q := (c_alen, s_alen)) hi (Nat.le_of_ble_eq_true rfl) rfl (by rcases hk with rfl | rfl | rfl | rfl <;> simp only [s_alen, hs]) k
theorem st_iastore {a n : Nat} {v x : Int32} (hi : (m_code M)[pc]? = some (62, 1, 0, 0, 0, 0)) (hs : h_sh h a = some (1, n)) (hin : vp_in x n) {j : Nat} (hj : x.toNatClampNeg = j) (hp : pc + 1 = pc') (k : wpx d M pc' ls st (w_i h a j v) Q) : wpx d M pc ls (.int v :: .int x :: .ref a :: st) h Q := by
  subst hp
  subst hj
  exact wpx_step (q := (c_iastore, s_iastore)) (r := (pc + 1, ls, st, w_i h a x.toNatClampNeg v)) hi (Nat.le_of_ble_eq_true rfl) rfl (by simp only [s_iastore, hs]; rw [if_neg hin]) (leB_refl h) k
theorem st_lastore {a n : Nat} {v : Int64} {x : Int32} (hi : (m_code M)[pc]? = some (63, 1, 0, 0, 0, 0)) (hs : h_sh h a = some (4, n)) (hin : vp_in x n) {j : Nat} (hj : x.toNatClampNeg = j) (hp : pc + 1 = pc') (k : wpx d M pc' ls st (w_l h a j v) Q) : wpx d M pc ls (.long v :: .int x :: .ref a :: st) h Q := by
  subst hp
  subst hj
  exact wpx_step (q := (c_lastore, s_lastore)) (r := (pc + 1, ls, st, w_l h a x.toNatClampNeg v)) hi (Nat.le_of_ble_eq_true rfl) rfl (by simp only [s_lastore, hs]; rw [if_neg hin]) (leB_refl h) k
theorem st_bastore {a n : Nat} {v x : Int32} (hi : (m_code M)[pc]? = some (64, 1, 0, 0, 0, 0)) (hs : h_sh h a = some (2, n)) (hin : vp_in x n) {j : Nat} (hj : x.toNatClampNeg = j) (hp : pc + 1 = pc') (k : wpx d M pc' ls st (w_i h a j v.toInt8.toInt32) Q) : wpx d M pc ls (.int v :: .int x :: .ref a :: st) h Q := by
  subst hp
  subst hj
  exact wpx_step (q := (c_bastore, s_bastore)) (r := (pc + 1, ls, st, w_i h a x.toNatClampNeg v.toInt8.toInt32)) hi (Nat.le_of_ble_eq_true rfl) rfl (by simp only [s_bastore, hs]; rw [if_neg hin]) (leB_refl h) k
theorem st_zastore {a n : Nat} {v x : Int32} (hi : (m_code M)[pc]? = some (64, 1, 0, 0, 0, 0)) (hs : h_sh h a = some (3, n)) (hin : vp_in x n) {j : Nat} (hj : x.toNatClampNeg = j) (hp : pc + 1 = pc') (k : wpx d M pc' ls st (w_i h a j (v &&& 1)) Q) : wpx d M pc ls (.int v :: .int x :: .ref a :: st) h Q := by
  subst hp
  subst hj
  exact wpx_step (q := (c_bastore, s_bastore)) (r := (pc + 1, ls, st, w_i h a x.toNatClampNeg (v &&& 1))) hi (Nat.le_of_ble_eq_true rfl) rfl (by simp only [s_bastore, hs]; rw [if_neg hin]) (leB_refl h) k
theorem st_getfi {a j ci kf : Nat} {op : Nat} (hop : op = 65 ∨ op = 66) (hi : (m_code M)[pc]? = some (op, 3, 0, j, ci, kf)) (hs : h_sh h a = some (0, ci)) (hk : fkd (fty ci kf) = 0) (hp : pc + 3 = pc') (k : wpx d M pc' ls (.int (h_i h a kf) :: st) h Q) : wpx d M pc ls (.ref a :: st) h Q := by
  subst hp
  have e : s_getf (op, 3, 0, j, ci, kf) pc ls (.ref a :: st) h = some (pc + 3, ls, .int (h_i h a kf) :: st, h) := by
    show (if h_sh h a = some (0, ci) then _ else _) = _
    rw [if_pos hs, show pval h ci a kf = .int (h_i h a kf) by simp only [pval, hk]]
  rcases hop with rfl | rfl
  · exact wpx_st (q := (c_getf, s_getf)) hi (Nat.le_of_ble_eq_true rfl) rfl e k
  · exact wpx_st (q := (c_getfN, s_getf)) hi (Nat.le_of_ble_eq_true rfl) rfl e k
theorem st_getfl {a j ci kf : Nat} {op : Nat} (hop : op = 65 ∨ op = 66) (hi : (m_code M)[pc]? = some (op, 3, 0, j, ci, kf)) (hs : h_sh h a = some (0, ci)) (hk : fkd (fty ci kf) = 1) (hp : pc + 3 = pc') (k : wpx d M pc' ls (.long (h_l h a kf) :: st) h Q) : wpx d M pc ls (.ref a :: st) h Q := by
  subst hp
  have e : s_getf (op, 3, 0, j, ci, kf) pc ls (.ref a :: st) h = some (pc + 3, ls, .long (h_l h a kf) :: st, h) := by
    show (if h_sh h a = some (0, ci) then _ else _) = _
    rw [if_pos hs, show pval h ci a kf = .long (h_l h a kf) by simp only [pval, hk]]
  rcases hop with rfl | rfl
  · exact wpx_st (q := (c_getf, s_getf)) hi (Nat.le_of_ble_eq_true rfl) rfl e k
  · exact wpx_st (q := (c_getfN, s_getf)) hi (Nat.le_of_ble_eq_true rfl) rfl e k
theorem st_getfr {a j ci kf : Nat} {x : Option Nat} {op : Nat} (hop : op = 65 ∨ op = 66) (hi : (m_code M)[pc]? = some (op, 3, 0, j, ci, kf)) (hs : h_sh h a = some (0, ci)) (hk : fkd (fty ci kf) = 2) (hx : h_r h a kf = x) (hp : pc + 3 = pc') (k : wpx d M pc' ls (va_rf x :: st) h Q) : wpx d M pc ls (.ref a :: st) h Q := by
  subst hp
  have e : s_getf (op, 3, 0, j, ci, kf) pc ls (.ref a :: st) h = some (pc + 3, ls, va_rf x :: st, h) := by
    show (if h_sh h a = some (0, ci) then _ else _) = _
    rw [if_pos hs, show pval h ci a kf = va_rf x by simp only [pval, hk, hx]]
  rcases hop with rfl | rfl
  · exact wpx_st (q := (c_getf, s_getf)) hi (Nat.le_of_ble_eq_true rfl) rfl e k
  · exact wpx_st (q := (c_getfN, s_getf)) hi (Nat.le_of_ble_eq_true rfl) rfl e k
theorem st_putf {a j ci kf : Nat} {v : Value} {h' : PH} {op : Nat} (hop : op = 67 ∨ op = 68 ∨ op = 69) (hi : (m_code M)[pc]? = some (op, 3, 0, j, ci, kf)) (hs : h_sh h a = some (0, ci)) (hn : narrow (fty ci kf) v = v) (hf : fits (fty ci kf) v = true) (hp : putv h ci a kf v = some h') (hp : pc + 3 = pc') (k : wpx d M pc' ls st h' Q) : wpx d M pc ls (v :: .ref a :: st) h Q := by
  subst hp
  have e : s_putf (op, 3, 0, j, ci, kf) pc ls (v :: .ref a :: st) h = some (pc + 3, ls, st, h') := by
    show (if _ ∧ _ ∧ _ then _ else _) = _
    rw [if_pos ⟨hs, hn, hf⟩]
    show (putv h ci a kf v).map _ = _
    rw [hp]
    rfl
  have hle : h_leB h h' = true := by
    obtain ⟨-, -, -, e1, e2, -⟩ := putv_spec ((0, 0, 0, fun _ => 0, (fun _ => 0, fun _ _ => 0), fun _ => 0) : Gx) hp hn hf
    exact decide_eq_true ⟨Nat.le_of_eq e1.symm, Nat.le_of_eq e2.symm⟩
  rcases hop with rfl | rfl | rfl
  · exact wpx_step (q := (c_putf, s_putf)) (r := (pc + 3, ls, st, h')) hi (Nat.le_of_ble_eq_true rfl) rfl e hle k
  · exact wpx_step (q := (c_putfN, s_putf)) (r := (pc + 3, ls, st, h')) hi (Nat.le_of_ble_eq_true rfl) rfl e hle k
  · exact wpx_step (q := (c_putfF, s_putf)) (r := (pc + 3, ls, st, h')) hi (Nat.le_of_ble_eq_true rfl) rfl e hle k
theorem st_nonnull {x : Option Nat} {t : Nat} (hi : (m_code M)[pc]? = some (57, 3, 0, t, 0, 0)) (k1 : ∀ a, x = some a → wpx d M t ls st h Q) (hp : pc + 3 = pc') (k2 : x = none → wpx d M pc' ls st h Q) : wpx d M pc ls (va_rf x :: st) h Q := by
  subst hp
  cases x with
  | none => exact wpx_st (q := (c_nonnull, s_nonnull)) (pc' := pc + 3) (ls' := ls) (st' := st) hi (Nat.le_of_ble_eq_true rfl) rfl rfl (k2 rfl)
  | some a => exact wpx_st (q := (c_nonnull, s_nonnull)) (pc' := t) (ls' := ls) (st' := st) hi (Nat.le_of_ble_eq_true rfl) rfl rfl (k1 a rfl)
theorem leB_new (h : PH) (q : Nat × Nat) (n : Nat) : h_leB h (h_new h q n) = true := decide_eq_true ⟨Nat.le_succ _, Nat.le_add_right _ _⟩
theorem st_new {ci pl : Nat} (hi : (m_code M)[pc]? = some (70, 3, 0, pl, ci, 0)) (hp : pc + 3 = pc') (k : wpx d M pc' ls (.ref (h_ct h) :: st) (h_new h (0, ci) (fN ci)) Q) : wpx d M pc ls st h Q := by
  subst hp
  exact wpx_step (q := (c_new, s_new)) (r := (pc + 3, ls, .ref (h_ct h) :: st, h_new h (0, ci) (fN ci))) hi (Nat.le_of_ble_eq_true rfl) rfl rfl (leB_new _ _ _) k
theorem st_newI {x : Int32} (hi : (m_code M)[pc]? = some (71, 2, 0, 0, 0, 0)) (hx : ¬ (x < 0 ∨ 60000000 < x.toNatClampNeg)) {j : Nat} (hj : x.toNatClampNeg = j) (hp : pc + 2 = pc') (k : wpx d M pc' ls (.ref (h_ct h) :: st) (h_new h (1, j) j) Q) : wpx d M pc ls (.int x :: st) h Q := by
  subst hp
  subst hj
  exact wpx_step (q := (c_newI, s_newI)) (r := (pc + 2, ls, .ref (h_ct h) :: st, h_new h (1, x.toNatClampNeg) x.toNatClampNeg)) hi (Nat.le_of_ble_eq_true rfl) rfl (if_neg hx) (leB_new _ _ _) k
theorem st_newB {x : Int32} (hi : (m_code M)[pc]? = some (72, 2, 0, 0, 0, 0)) (hx : ¬ (x < 0 ∨ 60000000 < x.toNatClampNeg)) {j : Nat} (hj : x.toNatClampNeg = j) (hp : pc + 2 = pc') (k : wpx d M pc' ls (.ref (h_ct h) :: st) (h_new h (2, j) j) Q) : wpx d M pc ls (.int x :: st) h Q := by
  subst hp
  subst hj
  exact wpx_step (q := (c_newB, s_newB)) (r := (pc + 2, ls, .ref (h_ct h) :: st, h_new h (2, x.toNatClampNeg) x.toNatClampNeg)) hi (Nat.le_of_ble_eq_true rfl) rfl (if_neg hx) (leB_new _ _ _) k
theorem st_newZ {x : Int32} (hi : (m_code M)[pc]? = some (73, 2, 0, 0, 0, 0)) (hx : ¬ (x < 0 ∨ 60000000 < x.toNatClampNeg)) {j : Nat} (hj : x.toNatClampNeg = j) (hp : pc + 2 = pc') (k : wpx d M pc' ls (.ref (h_ct h) :: st) (h_new h (3, j) j) Q) : wpx d M pc ls (.int x :: st) h Q := by
  subst hp
  subst hj
  exact wpx_step (q := (c_newZ, s_newZ)) (r := (pc + 2, ls, .ref (h_ct h) :: st, h_new h (3, x.toNatClampNeg) x.toNatClampNeg)) hi (Nat.le_of_ble_eq_true rfl) rfl (if_neg hx) (leB_new _ _ _) k
theorem st_newL {x : Int32} (hi : (m_code M)[pc]? = some (74, 2, 0, 0, 0, 0)) (hx : ¬ (x < 0 ∨ 60000000 < x.toNatClampNeg)) {j : Nat} (hj : x.toNatClampNeg = j) (hp : pc + 2 = pc') (k : wpx d M pc' ls (.ref (h_ct h) :: st) (h_new h (4, j) j) Q) : wpx d M pc ls (.int x :: st) h Q := by
  subst hp
  subst hj
  exact wpx_step (q := (c_newL, s_newL)) (r := (pc + 2, ls, .ref (h_ct h) :: st, h_new h (4, x.toNatClampNeg) x.toNatClampNeg)) hi (Nat.le_of_ble_eq_true rfl) rfl (if_neg hx) (leB_new _ _ _) k
theorem st_idiv {x y : Int32} (hi : (m_code M)[pc]? = some (10, 1, 0, 0, 0, 0)) (hy : ¬ y = 0) (hp : pc + 1 = pc') (k : wpx d M pc' ls (.int (x / y) :: st) h Q) : wpx d M pc ls (.int y :: .int x :: st) h Q := by
  subst hp
  exact wpx_st (q := (c_idiv, s_idiv)) hi (Nat.le_of_ble_eq_true rfl) rfl (if_neg hy) k
theorem st_irem {x y : Int32} (hi : (m_code M)[pc]? = some (11, 1, 0, 0, 0, 0)) (hy : ¬ y = 0) (hp : pc + 1 = pc') (k : wpx d M pc' ls (.int (x - x / y * y) :: st) h Q) : wpx d M pc ls (.int y :: .int x :: st) h Q := by
  subst hp
  exact wpx_st (q := (c_irem, s_irem)) hi (Nat.le_of_ble_eq_true rfl) rfl (if_neg hy) k
theorem st_ldiv {x y : Int64} (hi : (m_code M)[pc]? = some (18, 1, 0, 0, 0, 0)) (hy : ¬ y = 0) (hp : pc + 1 = pc') (k : wpx d M pc' ls (.long (x / y) :: st) h Q) : wpx d M pc ls (.long y :: .long x :: st) h Q := by
  subst hp
  exact wpx_st (q := (c_ldiv, s_ldiv)) hi (Nat.le_of_ble_eq_true rfl) rfl (if_neg hy) k
theorem st_lrem {x y : Int64} (hi : (m_code M)[pc]? = some (19, 1, 0, 0, 0, 0)) (hy : ¬ y = 0) (hp : pc + 1 = pc') (k : wpx d M pc' ls (.long (x - x / y * y) :: st) h Q) : wpx d M pc ls (.long y :: .long x :: st) h Q := by
  subst hp
  exact wpx_st (q := (c_lrem, s_lrem)) hi (Nat.le_of_ble_eq_true rfl) rfl (if_neg hy) k
theorem st_sload {x : Int32} {b : Nat} (hi : (m_code M)[pc]? = some (75, 1, 0, 0, 0, 0)) (hx : vp_in x (h_sc h).1) (hp : pc + 1 = pc') (k : wpx d M pc' ls (.int ((h_sc h).2 x.toNatClampNeg) :: st) h Q) : wpx d M pc ls (.int x :: .retAddr b :: st) h Q := by
  subst hp
  exact wpx_st (q := (c_sload, s_sload)) hi (Nat.le_of_ble_eq_true rfl) rfl (if_neg hx) k
end STH

/-! steps without the heap -/
section STN
variable {d : Nat} {M : PM} {pc pc' : Nat} {ls ls' st : List Value} {h : PH} {Q : PQ}
theorem st_iadd {x y : Int32} (hi : (m_code M)[pc]? = some (1, 1, 0, 0, 0, 0)) (hp : pc + 1 = pc') (k : wpx d M pc' ls (.int (x + y) :: st) h Q) : wpx d M pc ls (.int y :: .int x :: st) h Q := by
  subst hp
  exact wpx_st (q := (c_iadd, s_iadd)) hi (Nat.le_of_ble_eq_true rfl) rfl rfl k
theorem st_isub {x y : Int32} (hi : (m_code M)[pc]? = some (2, 1, 0, 0, 0, 0)) (hp : pc + 1 = pc') (k : wpx d M pc' ls (.int (x - y) :: st) h Q) : wpx d M pc ls (.int y :: .int x :: st) h Q := by
  subst hp
  exact wpx_st (q := (c_isub, s_isub)) hi (Nat.le_of_ble_eq_true rfl) rfl rfl k
theorem st_imul {x y : Int32} (hi : (m_code M)[pc]? = some (3, 1, 0, 0, 0, 0)) (hp : pc + 1 = pc') (k : wpx d M pc' ls (.int (x * y) :: st) h Q) : wpx d M pc ls (.int y :: .int x :: st) h Q := by
  subst hp
  exact wpx_st (q := (c_imul, s_imul)) hi (Nat.le_of_ble_eq_true rfl) rfl rfl k
theorem st_iand {x y : Int32} (hi : (m_code M)[pc]? = some (4, 1, 0, 0, 0, 0)) (hp : pc + 1 = pc') (k : wpx d M pc' ls (.int (x &&& y) :: st) h Q) : wpx d M pc ls (.int y :: .int x :: st) h Q := by
  subst hp
  exact wpx_st (q := (c_iand, s_iand)) hi (Nat.le_of_ble_eq_true rfl) rfl rfl k
theorem st_ior {x y : Int32} (hi : (m_code M)[pc]? = some (5, 1, 0, 0, 0, 0)) (hp : pc + 1 = pc') (k : wpx d M pc' ls (.int (x ||| y) :: st) h Q) : wpx d M pc ls (.int y :: .int x :: st) h Q := by
  subst hp
  exact wpx_st (q := (c_ior, s_ior)) hi (Nat.le_of_ble_eq_true rfl) rfl rfl k
theorem st_ixor {x y : Int32} (hi : (m_code M)[pc]? = some (6, 1, 0, 0, 0, 0)) (hp : pc + 1 = pc') (k : wpx d M pc' ls (.int (x ^^^ y) :: st) h Q) : wpx d M pc ls (.int y :: .int x :: st) h Q := by
  subst hp
  exact wpx_st (q := (c_ixor, s_ixor)) hi (Nat.le_of_ble_eq_true rfl) rfl rfl k
theorem st_ishl {x y : Int32} (hi : (m_code M)[pc]? = some (7, 1, 0, 0, 0, 0)) (hp : pc + 1 = pc') (k : wpx d M pc' ls (.int (x <<< (y &&& 31)) :: st) h Q) : wpx d M pc ls (.int y :: .int x :: st) h Q := by
  subst hp
  exact wpx_st (q := (c_ishl, s_ishl)) hi (Nat.le_of_ble_eq_true rfl) rfl rfl k
theorem st_ishr {x y : Int32} (hi : (m_code M)[pc]? = some (8, 1, 0, 0, 0, 0)) (hp : pc + 1 = pc') (k : wpx d M pc' ls (.int (x >>> (y &&& 31)) :: st) h Q) : wpx d M pc ls (.int y :: .int x :: st) h Q := by
  subst hp
  exact wpx_st (q := (c_ishr, s_ishr)) hi (Nat.le_of_ble_eq_true rfl) rfl rfl k
theorem st_iushr {x y : Int32} (hi : (m_code M)[pc]? = some (9, 1, 0, 0, 0, 0)) (hp : pc + 1 = pc') (k : wpx d M pc' ls (.int ((x.toUInt32 >>> (y.toUInt32 &&& Int32.toUInt32 31)).toInt32) :: st) h Q) : wpx d M pc ls (.int y :: .int x :: st) h Q := by
  subst hp
  exact wpx_st (q := (c_iushr, s_iushr)) hi (Nat.le_of_ble_eq_true rfl) rfl rfl k
theorem st_ladd {x y : Int64} (hi : (m_code M)[pc]? = some (12, 1, 0, 0, 0, 0)) (hp : pc + 1 = pc') (k : wpx d M pc' ls (.long (x + y) :: st) h Q) : wpx d M pc ls (.long y :: .long x :: st) h Q := by
  subst hp
  exact wpx_st (q := (c_ladd, s_ladd)) hi (Nat.le_of_ble_eq_true rfl) rfl rfl k
theorem st_lsub {x y : Int64} (hi : (m_code M)[pc]? = some (13, 1, 0, 0, 0, 0)) (hp : pc + 1 = pc') (k : wpx d M pc' ls (.long (x - y) :: st) h Q) : wpx d M pc ls (.long y :: .long x :: st) h Q := by
  subst hp
  exact wpx_st (q := (c_lsub, s_lsub)) hi (Nat.le_of_ble_eq_true rfl) rfl rfl k
theorem st_lmul {x y : Int64} (hi : (m_code M)[pc]? = some (14, 1, 0, 0, 0, 0)) (hp : pc + 1 = pc') (k : wpx d M pc' ls (.long (x * y) :: st) h Q) : wpx d M pc ls (.long y :: .long x :: st) h Q := by
  subst hp
  exact wpx_st (q := (c_lmul, s_lmul)) hi (Nat.le_of_ble_eq_true rfl) rfl rfl k
theorem st_land {x y : Int64} (hi : (m_code M)[pc]? = some (15, 1, 0, 0, 0, 0)) (hp : pc + 1 = pc') (k : wpx d M pc' ls (.long (x &&& y) :: st) h Q) : wpx d M pc ls (.long y :: .long x :: st) h Q := by
  subst hp
  exact wpx_st (q := (c_land, s_land)) hi (Nat.le_of_ble_eq_true rfl) rfl rfl k
theorem st_lor {x y : Int64} (hi : (m_code M)[pc]? = some (16, 1, 0, 0, 0, 0)) (hp : pc + 1 = pc') (k : wpx d M pc' ls (.long (x ||| y) :: st) h Q) : wpx d M pc ls (.long y :: .long x :: st) h Q := by
  subst hp
  exact wpx_st (q := (c_lor, s_lor)) hi (Nat.le_of_ble_eq_true rfl) rfl rfl k
theorem st_lxor {x y : Int64} (hi : (m_code M)[pc]? = some (17, 1, 0, 0, 0, 0)) (hp : pc + 1 = pc') (k : wpx d M pc' ls (.long (x ^^^ y) :: st) h Q) : wpx d M pc ls (.long y :: .long x :: st) h Q := by
  subst hp
  exact wpx_st (q := (c_lxor, s_lxor)) hi (Nat.le_of_ble_eq_true rfl) rfl rfl k
theorem st_lshl {x : Int64} {y : Int32} (hi : (m_code M)[pc]? = some (20, 1, 0, 0, 0, 0)) (hp : pc + 1 = pc') (k : wpx d M pc' ls (.long (x <<< (y.toInt64 &&& 63)) :: st) h Q) : wpx d M pc ls (.int y :: .long x :: st) h Q := by
  subst hp
  exact wpx_st (q := (c_lshl, s_lshl)) hi (Nat.le_of_ble_eq_true rfl) rfl rfl k
theorem st_lushr {x : Int64} {y : Int32} (hi : (m_code M)[pc]? = some (21, 1, 0, 0, 0, 0)) (hp : pc + 1 = pc') (k : wpx d M pc' ls (.long ((x.toUInt64 >>> (y.toInt64.toUInt64 &&& Int64.toUInt64 63)).toInt64) :: st) h Q) : wpx d M pc ls (.int y :: .long x :: st) h Q := by
  subst hp
  exact wpx_st (q := (c_lushr, s_lushr)) hi (Nat.le_of_ble_eq_true rfl) rfl rfl k
theorem st_lcmp {x y : Int64} (hi : (m_code M)[pc]? = some (22, 1, 0, 0, 0, 0)) (hp : pc + 1 = pc') (k : wpx d M pc' ls (.int (lg_cmp x y) :: st) h Q) : wpx d M pc ls (.long y :: .long x :: st) h Q := by
  subst hp
  exact wpx_st (q := (c_lcmp, s_lcmp)) hi (Nat.le_of_ble_eq_true rfl) rfl rfl k
theorem st_ineg {x : Int32} (hi : (m_code M)[pc]? = some (23, 1, 0, 0, 0, 0)) (hp : pc + 1 = pc') (k : wpx d M pc' ls (.int (-x) :: st) h Q) : wpx d M pc ls (.int x :: st) h Q := by
  subst hp
  exact wpx_st (q := (c_ineg, s_ineg)) hi (Nat.le_of_ble_eq_true rfl) rfl rfl k
theorem st_i2l {x : Int32} (hi : (m_code M)[pc]? = some (24, 1, 0, 0, 0, 0)) (hp : pc + 1 = pc') (k : wpx d M pc' ls (.long x.toInt64 :: st) h Q) : wpx d M pc ls (.int x :: st) h Q := by
  subst hp
  exact wpx_st (q := (c_i2l, s_i2l)) hi (Nat.le_of_ble_eq_true rfl) rfl rfl k
theorem st_l2i {x : Int64} (hi : (m_code M)[pc]? = some (25, 1, 0, 0, 0, 0)) (hp : pc + 1 = pc') (k : wpx d M pc' ls (.int x.toInt32 :: st) h Q) : wpx d M pc ls (.long x :: st) h Q := by
  subst hp
  exact wpx_st (q := (c_l2i, s_l2i)) hi (Nat.le_of_ble_eq_true rfl) rfl rfl k
theorem st_i2b {x : Int32} (hi : (m_code M)[pc]? = some (26, 1, 0, 0, 0, 0)) (hp : pc + 1 = pc') (k : wpx d M pc' ls (.int x.toInt8.toInt32 :: st) h Q) : wpx d M pc ls (.int x :: st) h Q := by
  subst hp
  exact wpx_st (q := (c_i2b, s_i2b)) hi (Nat.le_of_ble_eq_true rfl) rfl rfl k
theorem st_dup {v : Value} (hi : (m_code M)[pc]? = some (27, 1, 0, 0, 0, 0)) (hp : pc + 1 = pc') (hv : v.category = 1) (k : wpx d M pc' ls (v :: v :: st) h Q) : wpx d M pc ls (v :: st) h Q := by
  subst hp
  exact wpx_st (q := (c_dup, s_dup)) hi (Nat.le_of_ble_eq_true rfl) rfl (if_neg (fun q => q hv)) k
theorem st_pop {v : Value} (hi : (m_code M)[pc]? = some (28, 1, 0, 0, 0, 0)) (hp : pc + 1 = pc') (hv : v.category = 1) (k : wpx d M pc' ls (st) h Q) : wpx d M pc ls (v :: st) h Q := by
  subst hp
  exact wpx_st (q := (c_pop, s_pop)) hi (Nat.le_of_ble_eq_true rfl) rfl (if_neg (fun q => q hv)) k
theorem st_pop2 {v : Value} (hi : (m_code M)[pc]? = some (29, 1, 0, 0, 0, 0)) (hp : pc + 1 = pc') (hv : v.category = 2) (k : wpx d M pc' ls (st) h Q) : wpx d M pc ls (v :: st) h Q := by
  subst hp
  exact wpx_st (q := (c_pop2, s_pop2)) hi (Nat.le_of_ble_eq_true rfl) rfl (if_neg (fun q => q hv)) k
theorem st_dup22 {v : Value} (hi : (m_code M)[pc]? = some (30, 1, 0, 0, 0, 0)) (hp : pc + 1 = pc') (hv : v.category = 2) (k : wpx d M pc' ls (v :: v :: st) h Q) : wpx d M pc ls (v :: st) h Q := by
  subst hp
  exact wpx_st (q := (c_dup22, s_dup22)) hi (Nat.le_of_ble_eq_true rfl) rfl (if_neg (fun q => q hv)) k
theorem st_dup211 {v w : Value} (hi : (m_code M)[pc]? = some (31, 1, 0, 0, 0, 0)) (hp : pc + 1 = pc') (hv : v.category = 1 ∧ w.category = 1) (k : wpx d M pc' ls (v :: w :: v :: w :: st) h Q) : wpx d M pc ls (v :: w :: st) h Q := by
  subst hp
  exact wpx_st (q := (c_dup211, s_dup211)) hi (Nat.le_of_ble_eq_true rfl) rfl (if_neg (fun q => q hv)) k
theorem st_ipush {ln : Nat} {a : Int} {v : Int32} (hi : (m_code M)[pc]? = some (32, ln, a, 0, 0, 0)) (hp : pc + ln = pc') (hv : Int32.ofInt a = v) (k : wpx d M pc' ls (.int v :: st) h Q) : wpx d M pc ls st h Q := by
  subst hp; subst hv
  exact wpx_st (q := (c_ipush, s_ipush)) hi (Nat.le_of_ble_eq_true rfl) rfl rfl k
theorem st_lpush {ln : Nat} {a : Int} {v : Int64} (hi : (m_code M)[pc]? = some (33, ln, a, 0, 0, 0)) (hp : pc + ln = pc') (hv : Int64.ofInt a = v) (k : wpx d M pc' ls (.long v :: st) h Q) : wpx d M pc ls st h Q := by
  subst hp; subst hv
  exact wpx_st (q := (c_lpush, s_lpush)) hi (Nat.le_of_ble_eq_true rfl) rfl rfl k
theorem st_ldc {ln pl : Nat} {a : Int} {v : Int32} (hi : (m_code M)[pc]? = some (34, ln, a, pl, 0, 0)) (hp : pc + ln = pc') (hv : Int32.ofInt a = v) (k : wpx d M pc' ls (.int v :: st) h Q) : wpx d M pc ls st h Q := by
  subst hp; subst hv
  exact wpx_st (q := (c_ldc, s_ldc)) hi (Nat.le_of_ble_eq_true rfl) rfl rfl k
theorem st_ldc2 {ln pl : Nat} {a : Int} {v : Int64} (hi : (m_code M)[pc]? = some (35, ln, a, pl, 0, 0)) (hp : pc + ln = pc') (hv : Int64.ofInt a = v) (k : wpx d M pc' ls (.long v :: st) h Q) : wpx d M pc ls st h Q := by
  subst hp; subst hv
  exact wpx_st (q := (c_ldc2, s_ldc2)) hi (Nat.le_of_ble_eq_true rfl) rfl rfl k
theorem st_iload {ln j : Nat} {x : Int32} (hi : (m_code M)[pc]? = some (36, ln, 0, j, 0, 0)) (hp : pc + ln = pc') (hl : ls[j]? = some (.int x)) (k : wpx d M pc' ls (.int x :: st) h Q) : wpx d M pc ls st h Q := by
  subst hp
  exact wpx_st (q := (c_iload, s_iload)) hi (Nat.le_of_ble_eq_true rfl) rfl (by simp only [s_iload, hl]) k
theorem st_aload {ln j : Nat} {x : Nat} (hi : (m_code M)[pc]? = some (37, ln, 0, j, 0, 0)) (hp : pc + ln = pc') (hl : ls[j]? = some (.ref x)) (k : wpx d M pc' ls (.ref x :: st) h Q) : wpx d M pc ls st h Q := by
  subst hp
  exact wpx_st (q := (c_aload, s_aload)) hi (Nat.le_of_ble_eq_true rfl) rfl (by simp only [s_aload, hl]) k
theorem st_lload {ln j : Nat} {x : Int64} (hi : (m_code M)[pc]? = some (38, ln, 0, j, 0, 0)) (hp : pc + ln = pc') (hl : ls[j]? = some (.long x)) (hm : ls[j + 1]? = some (.retAddr 2)) (k : wpx d M pc' ls (.long x :: st) h Q) : wpx d M pc ls st h Q := by
  subst hp
  exact wpx_st (q := (c_lload, s_lload)) hi (Nat.le_of_ble_eq_true rfl) rfl (by simp only [s_lload, hl]; rw [if_pos (by simp only [okv, hm]; rfl)]) k
theorem st_aloadS {ln j : Nat} (hi : (m_code M)[pc]? = some (39, ln, 0, j, 0, 0)) (hp : pc + ln = pc') (hl : ls[j]? = some (.retAddr 1)) (k : wpx d M pc' ls (.retAddr 1 :: st) h Q) : wpx d M pc ls st h Q := by
  subst hp
  exact wpx_st (q := (c_aloadS, s_aloadS)) hi (Nat.le_of_ble_eq_true rfl) rfl (by simp only [s_aloadS, hl]; rfl) k
theorem st_istore {ln j : Nat} {x : Int32} (hi : (m_code M)[pc]? = some (40, ln, 0, j, 0, 0)) (hp : pc + ln = pc') (hj : j < ls.length) (hl : ls.set j (.int x) = ls') (k : wpx d M pc' ls' st h Q) : wpx d M pc ls (.int x :: st) h Q := by
  subst hp; subst hl
  exact wpx_st (q := (c_istore, s_istore)) hi (Nat.le_of_ble_eq_true rfl) rfl (if_pos hj) k
theorem st_astore {ln j : Nat} {x : Nat} (hi : (m_code M)[pc]? = some (41, ln, 0, j, 0, 0)) (hp : pc + ln = pc') (hj : j < ls.length) (hl : ls.set j (.ref x) = ls') (k : wpx d M pc' ls' st h Q) : wpx d M pc ls (.ref x :: st) h Q := by
  subst hp; subst hl
  exact wpx_st (q := (c_astore, s_astore)) hi (Nat.le_of_ble_eq_true rfl) rfl (if_pos hj) k
theorem st_lstore {ln j : Nat} {x : Int64} (hi : (m_code M)[pc]? = some (42, ln, 0, j, 0, 0)) (hp : pc + ln = pc') (hj : j + 1 < ls.length) (hl : (ls.set j (.long x)).set (j + 1) (.retAddr 2) = ls') (k : wpx d M pc' ls' st h Q) : wpx d M pc ls (.long x :: st) h Q := by
  subst hp; subst hl
  exact wpx_st (q := (c_lstore, s_lstore)) hi (Nat.le_of_ble_eq_true rfl) rfl (if_pos hj) k
theorem st_iinc {j : Nat} {a : Int} {x v : Int32} (hi : (m_code M)[pc]? = some (43, 3, a, j, 0, 0)) (hp : pc + 3 = pc') (hx : ls[j]? = some (.int x)) (hv : Int32.ofInt a = v) (hl : ls.set j (.int (x + v)) = ls') (k : wpx d M pc' ls' st h Q) : wpx d M pc ls st h Q := by
  subst hp; subst hl; subst hv
  exact wpx_st (q := (c_iinc, s_iinc)) hi (Nat.le_of_ble_eq_true rfl) rfl (by simp only [s_iinc, hx]) k
theorem st_if_eq {x : Int32} {t : Nat} (hi : (m_code M)[pc]? = some (44, 3, 0, t, 0, 0)) (hp : pc + 3 = pc') (kt : x = 0 → wpx d M t ls st h Q) (kf : ¬ x = 0 → wpx d M pc' ls st h Q) : wpx d M pc ls (.int x :: st) h Q := by
  subst hp
  exact wpx_if (c := x = 0) (q := (c_if_eq, s_if_eq)) hi (Nat.le_of_ble_eq_true rfl) rfl rfl kt kf
theorem st_icmp_eq {x y : Int32} {t : Nat} (hi : (m_code M)[pc]? = some (45, 3, 0, t, 0, 0)) (hp : pc + 3 = pc') (kt : x = y → wpx d M t ls st h Q) (kf : ¬ x = y → wpx d M pc' ls st h Q) : wpx d M pc ls (.int y :: .int x :: st) h Q := by
  subst hp
  exact wpx_if (c := x = y) (q := (c_icmp_eq, s_icmp_eq)) hi (Nat.le_of_ble_eq_true rfl) rfl rfl kt kf
theorem st_if_ne {x : Int32} {t : Nat} (hi : (m_code M)[pc]? = some (46, 3, 0, t, 0, 0)) (hp : pc + 3 = pc') (kt : ¬ x = 0 → wpx d M t ls st h Q) (kf : x = 0 → wpx d M pc' ls st h Q) : wpx d M pc ls (.int x :: st) h Q := by
  subst hp
  exact wpx_if (c := x = 0) (q := (c_if_ne, s_if_ne)) hi (Nat.le_of_ble_eq_true rfl) rfl rfl kf kt
theorem st_icmp_ne {x y : Int32} {t : Nat} (hi : (m_code M)[pc]? = some (47, 3, 0, t, 0, 0)) (hp : pc + 3 = pc') (kt : ¬ x = y → wpx d M t ls st h Q) (kf : x = y → wpx d M pc' ls st h Q) : wpx d M pc ls (.int y :: .int x :: st) h Q := by
  subst hp
  exact wpx_if (c := x = y) (q := (c_icmp_ne, s_icmp_ne)) hi (Nat.le_of_ble_eq_true rfl) rfl rfl kf kt
theorem st_if_lt {x : Int32} {t : Nat} (hi : (m_code M)[pc]? = some (48, 3, 0, t, 0, 0)) (hp : pc + 3 = pc') (kt : x < 0 → wpx d M t ls st h Q) (kf : ¬ x < 0 → wpx d M pc' ls st h Q) : wpx d M pc ls (.int x :: st) h Q := by
  subst hp
  exact wpx_if (c := x < 0) (q := (c_if_lt, s_if_lt)) hi (Nat.le_of_ble_eq_true rfl) rfl rfl kt kf
theorem st_icmp_lt {x y : Int32} {t : Nat} (hi : (m_code M)[pc]? = some (49, 3, 0, t, 0, 0)) (hp : pc + 3 = pc') (kt : x < y → wpx d M t ls st h Q) (kf : ¬ x < y → wpx d M pc' ls st h Q) : wpx d M pc ls (.int y :: .int x :: st) h Q := by
  subst hp
  exact wpx_if (c := x < y) (q := (c_icmp_lt, s_icmp_lt)) hi (Nat.le_of_ble_eq_true rfl) rfl rfl kt kf
theorem st_if_ge {x : Int32} {t : Nat} (hi : (m_code M)[pc]? = some (50, 3, 0, t, 0, 0)) (hp : pc + 3 = pc') (kt : 0 ≤ x → wpx d M t ls st h Q) (kf : ¬ 0 ≤ x → wpx d M pc' ls st h Q) : wpx d M pc ls (.int x :: st) h Q := by
  subst hp
  exact wpx_if (c := 0 ≤ x) (q := (c_if_ge, s_if_ge)) hi (Nat.le_of_ble_eq_true rfl) rfl rfl kt kf
theorem st_icmp_ge {x y : Int32} {t : Nat} (hi : (m_code M)[pc]? = some (51, 3, 0, t, 0, 0)) (hp : pc + 3 = pc') (kt : y ≤ x → wpx d M t ls st h Q) (kf : ¬ y ≤ x → wpx d M pc' ls st h Q) : wpx d M pc ls (.int y :: .int x :: st) h Q := by
  subst hp
  exact wpx_if (c := y ≤ x) (q := (c_icmp_ge, s_icmp_ge)) hi (Nat.le_of_ble_eq_true rfl) rfl rfl kt kf
theorem st_if_gt {x : Int32} {t : Nat} (hi : (m_code M)[pc]? = some (52, 3, 0, t, 0, 0)) (hp : pc + 3 = pc') (kt : 0 < x → wpx d M t ls st h Q) (kf : ¬ 0 < x → wpx d M pc' ls st h Q) : wpx d M pc ls (.int x :: st) h Q := by
  subst hp
  exact wpx_if (c := 0 < x) (q := (c_if_gt, s_if_gt)) hi (Nat.le_of_ble_eq_true rfl) rfl rfl kt kf
theorem st_icmp_gt {x y : Int32} {t : Nat} (hi : (m_code M)[pc]? = some (53, 3, 0, t, 0, 0)) (hp : pc + 3 = pc') (kt : y < x → wpx d M t ls st h Q) (kf : ¬ y < x → wpx d M pc' ls st h Q) : wpx d M pc ls (.int y :: .int x :: st) h Q := by
  subst hp
  exact wpx_if (c := y < x) (q := (c_icmp_gt, s_icmp_gt)) hi (Nat.le_of_ble_eq_true rfl) rfl rfl kt kf
theorem st_if_le {x : Int32} {t : Nat} (hi : (m_code M)[pc]? = some (54, 3, 0, t, 0, 0)) (hp : pc + 3 = pc') (kt : x ≤ 0 → wpx d M t ls st h Q) (kf : ¬ x ≤ 0 → wpx d M pc' ls st h Q) : wpx d M pc ls (.int x :: st) h Q := by
  subst hp
  exact wpx_if (c := x ≤ 0) (q := (c_if_le, s_if_le)) hi (Nat.le_of_ble_eq_true rfl) rfl rfl kt kf
theorem st_icmp_le {x y : Int32} {t : Nat} (hi : (m_code M)[pc]? = some (55, 3, 0, t, 0, 0)) (hp : pc + 3 = pc') (kt : x ≤ y → wpx d M t ls st h Q) (kf : ¬ x ≤ y → wpx d M pc' ls st h Q) : wpx d M pc ls (.int y :: .int x :: st) h Q := by
  subst hp
  exact wpx_if (c := x ≤ y) (q := (c_icmp_le, s_icmp_le)) hi (Nat.le_of_ble_eq_true rfl) rfl rfl kt kf
theorem st_goto {t : Nat} (hi : (m_code M)[pc]? = some (56, 3, 0, t, 0, 0)) (k : wpx d M t ls st h Q) : wpx d M pc ls st h Q := wpx_st (q := (c_goto, s_goto)) hi (Nat.le_of_ble_eq_true rfl) rfl rfl k
theorem st_oinit {a pl : Nat} (hi : (m_code M)[pc]? = some (78, 3, 0, pl, 0, 0)) (hp : pc + 3 = pc') (hr : st.length ≤ 4) (k : wpx d M pc' ls st h Q) : wpx d M pc ls (.ref a :: st) h Q := by
  subst hp
  exact wpx_st (q := (c_oinit, s_oinit)) hi (Nat.le_of_ble_eq_true rfl) rfl (if_pos hr) k
theorem st_slen {b : Nat} (hi : (m_code M)[pc]? = some (76, 1, 0, 0, 0, 0)) (hp : pc + 1 = pc') (k : wpx d M pc' ls (.int (Int32.ofNat (h_sc h).1) :: st) h Q) : wpx d M pc ls (.retAddr b :: st) h Q := by
  subst hp
  exact wpx_st (q := (c_slen, s_slen)) hi (Nat.le_of_ble_eq_true rfl) rfl rfl k
theorem st_mmax {x y : Int32} {pl : Nat} (hi : (m_code M)[pc]? = some (82, 3, 0, pl, 0, 0)) (hp : pc + 3 = pc') (hr : st.length ≤ 4) (k : wpx d M pc' ls (.int (if x < y then y else x) :: st) h Q) : wpx d M pc ls (.int y :: .int x :: st) h Q := by
  subst hp
  exact wpx_st (q := (c_mmax, s_mmax)) hi (Nat.le_of_ble_eq_true rfl) rfl (if_pos hr) k
theorem st_mmin {x y : Int32} {pl : Nat} (hi : (m_code M)[pc]? = some (83, 3, 0, pl, 0, 0)) (hp : pc + 3 = pc') (hr : st.length ≤ 4) (k : wpx d M pc' ls (.int (if y < x then y else x) :: st) h Q) : wpx d M pc ls (.int y :: .int x :: st) h Q := by
  subst hp
  exact wpx_st (q := (c_mmin, s_mmin)) hi (Nat.le_of_ble_eq_true rfl) rfl (if_pos hr) k
theorem st_switch {x : Int32} {ln j df : Nat} {lo : Int} {tg : List Nat} (hi : (m_code M)[pc]? = some (77, ln, 0, j, 0, 0)) (hw : swT[j]? = some (lo, tg, df)) (kd : x.toInt < lo ∨ lo + (tg.length : Int) ≤ x.toInt → wpx d M df ls st h Q) (k : ∀ t, ¬ (x.toInt < lo ∨ lo + (tg.length : Int) ≤ x.toInt) → tg[(x.toInt - lo).toNat]? = some t → wpx d M t ls st h Q) : wpx d M pc ls (.int x :: st) h Q := by
  by_cases hc : x.toInt < lo ∨ lo + (tg.length : Int) ≤ x.toInt
  · exact wpx_st (q := (c_switch, s_switch)) (pc' := df) (ls' := ls) (st' := st) hi (Nat.le_of_ble_eq_true rfl) rfl (by simp only [s_switch, hw]; rw [if_pos hc]) (kd hc)
  · cases ht : tg[(x.toInt - lo).toNat]? with
    | none =>
      exfalso
      have := List.getElem?_eq_none_iff.mp ht
      omega
    | some t => exact wpx_st (q := (c_switch, s_switch)) (pc' := t) (ls' := ls) (st' := st) hi (Nat.le_of_ble_eq_true rfl) rfl (by simp only [s_switch, hw]; rw [if_neg hc, ht]; rfl) (k t hc ht)
theorem st_copyI {a a0 n0 n1 pl : Nat} {n dp sp : Int32} (hi : (m_code M)[pc]? = some (79, 3, 0, pl, 0, 0)) (hp : pc + 3 = pc') (hr : st.length ≤ 4) (hs0 : h_sh h a0 = some (1, n0)) (hs1 : h_sh h a = some (1, n1)) (hc : (¬ sp < 0) ∧ (¬ dp < 0) ∧ (¬ n < 0) ∧ sp.toNatClampNeg + n.toNatClampNeg ≤ n0 ∧ dp.toNatClampNeg + n.toNatClampNeg ≤ n1) {js jd jn : Nat} (hjs : sp.toNatClampNeg = js) (hjd : dp.toNatClampNeg = jd) (hjn : n.toNatClampNeg = jn) (k : wpx d M pc' ls st (w_ri h a (va_cpy (h_i h a0) (h_i h a) js jd jn)) Q) : wpx d M pc ls (.int n :: .int dp :: .ref a :: .int sp :: .ref a0 :: st) h Q := by
  subst hp
  subst hjs
  subst hjd
  subst hjn
  exact wpx_step (q := (c_copyI, s_copyI)) (r := (pc + 3, ls, st, w_ri h a (va_cpy (h_i h a0) (h_i h a) sp.toNatClampNeg dp.toNatClampNeg n.toNatClampNeg))) hi (Nat.le_of_ble_eq_true rfl) rfl (by simp only [s_copyI, hs0, hs1]; rw [if_pos ⟨hr, hc⟩]) (leB_refl h) k
theorem st_copyL {a a0 n0 n1 pl : Nat} {n dp sp : Int32} (hi : (m_code M)[pc]? = some (81, 3, 0, pl, 0, 0)) (hp : pc + 3 = pc') (hr : st.length ≤ 4) (hs0 : h_sh h a0 = some (4, n0)) (hs1 : h_sh h a = some (4, n1)) (hc : (¬ sp < 0) ∧ (¬ dp < 0) ∧ (¬ n < 0) ∧ sp.toNatClampNeg + n.toNatClampNeg ≤ n0 ∧ dp.toNatClampNeg + n.toNatClampNeg ≤ n1) {js jd jn : Nat} (hjs : sp.toNatClampNeg = js) (hjd : dp.toNatClampNeg = jd) (hjn : n.toNatClampNeg = jn) (k : wpx d M pc' ls st (w_rl h a (va_cpy (h_l h a0) (h_l h a) js jd jn)) Q) : wpx d M pc ls (.int n :: .int dp :: .ref a :: .int sp :: .ref a0 :: st) h Q := by
  subst hp
  subst hjs
  subst hjd
  subst hjn
  exact wpx_step (q := (c_copyL, s_copyL)) (r := (pc + 3, ls, st, w_rl h a (va_cpy (h_l h a0) (h_l h a) sp.toNatClampNeg dp.toNatClampNeg n.toNatClampNeg))) hi (Nat.le_of_ble_eq_true rfl) rfl (by simp only [s_copyL, hs0, hs1]; rw [if_pos ⟨hr, hc⟩]) (leB_refl h) k
theorem st_copyB {a a0 n0 n1 pl : Nat} {n dp sp : Int32} (hi : (m_code M)[pc]? = some (80, 3, 0, pl, 0, 0)) (hp : pc + 3 = pc') (hr : st.length ≤ 4) (hs0 : h_sh h a0 = some (2, n0)) (hs1 : h_sh h a = some (2, n1)) (hc : (¬ sp < 0) ∧ (¬ dp < 0) ∧ (¬ n < 0) ∧ sp.toNatClampNeg + n.toNatClampNeg ≤ n0 ∧ dp.toNatClampNeg + n.toNatClampNeg ≤ n1 ∧ (List.range n.toNatClampNeg).all (fun j => fits .byte (.int (h_i h a0 (sp.toNatClampNeg + j)))) = true) {js jd jn : Nat} (hjs : sp.toNatClampNeg = js) (hjd : dp.toNatClampNeg = jd) (hjn : n.toNatClampNeg = jn) (k : wpx d M pc' ls st (w_ri h a (va_cpy (h_i h a0) (h_i h a) js jd jn)) Q) : wpx d M pc ls (.int n :: .int dp :: .ref a :: .int sp :: .ref a0 :: st) h Q := by
  subst hp
  subst hjs
  subst hjd
  subst hjn
  exact wpx_step (q := (c_copyB, s_copyB)) (r := (pc + 3, ls, st, w_ri h a (va_cpy (h_i h a0) (h_i h a) sp.toNatClampNeg dp.toNatClampNeg n.toNatClampNeg))) hi (Nat.le_of_ble_eq_true rfl) rfl (by simp only [s_copyB, hs0, hs1]; rw [if_pos ⟨hr, hc⟩]) (leB_refl h) k
theorem st_ireturn {v : Int32} {ty : FieldType} (hi : (m_code M)[pc]? = some (100, 1, 0, 0, 0, 0)) (hr : m_ret M = some ty) (hn : narrow ty (.int v) = .int v) (k : Q (some (.int v)) h) : wpx d M pc ls [.int v] h Q :=
  wpx_ret hi (by decide) (by decide) (by show (match m_ret M with | some ty => _ | none => _) = _; rw [hr]; exact if_pos hn) k
theorem st_lreturn {v : Int64} (hi : (m_code M)[pc]? = some (101, 1, 0, 0, 0, 0)) (k : Q (some (.long v)) h) : wpx d M pc ls [.long v] h Q := wpx_ret hi (by decide) (by decide) rfl k
theorem st_areturn {v : Nat} (hi : (m_code M)[pc]? = some (102, 1, 0, 0, 0, 0)) (k : Q (some (.ref v)) h) : wpx d M pc ls [.ref v] h Q := wpx_ret hi (by decide) (by decide) rfl k
theorem st_return (hi : (m_code M)[pc]? = some (103, 1, 0, 0, 0, 0)) (k : Q none h) : wpx d M pc ls [] h Q := wpx_ret hi (by decide) (by decide) rfl k
theorem st_call {id na j kd o : Nat} {a : Int} {as rest : List Value} (hi : (m_code M)[pc]? = some (110, 3, a, id, na, j)) (hp : pc + 3 = pc') (h1 : na ≤ st.length) (has : (st.take na).reverse = as) (hrest : st.drop na = rest) (h4 : rest.length ≤ 4) (hkd : m_kd (mOf id) = kd) (ho : m_o (mOf id) = o) (hrv : recvOK kd o h as = true) (k : wpm d id as h (fun r h' => wpx d M pc' ls (r.toList ++ rest) h' Q)) : wpx d M pc ls st h Q := by
  subst hp; subst hkd; subst ho
  exact wpx_call' hi rfl h1 has hrest h4 hrv k
end STN
