/-! table on the class's side, closed -/
theorem stepR_ok {s : PSt} {l : List Nat} (ho : okS s) (hl : ∀ x ∈ l, 0 < x ∧ x < 27) (hl0 : 0 < l.length) (h : (stepR s l).1 = 0) : okS (stepR s l).2 := by
  obtain ⟨a1, a2, a3, a4, a5, a6, a7, a8, a9, a10⟩ := ho
  unfold stepR at h ⊢
  by_cases q0 : s.1 = 0
  · rw [if_pos q0] at h ⊢
    by_cases q1 : ¬ l = snd5
    · rw [if_pos q1] at h
      cases h
    · rw [if_neg q1] at h ⊢
      by_cases q2 : ¬ s.2.1.length < 10
      · rw [if_pos q2] at h
        cases h
      · rw [if_neg q2]
        exact ⟨by show 1 ≤ 4; omega, a2, a3, a4, a5, a6, fun _ => by show s.2.1.length < 10; omega, fun z => absurd z (by show ¬ 2 ≤ 1; omega), a9, a10⟩
  · rw [if_neg q0] at h ⊢
    by_cases q6 : 6 < l.length
    · rw [if_pos q6] at h
      cases h
    · rw [if_neg q6] at h ⊢
      have hokn : okn l := ⟨hl, by omega, hl0⟩
      by_cases q1 : s.1 = 1
      · rw [if_pos q1] at h ⊢
        by_cases q2 : l = snd5
        · rw [if_pos q2] at h
          cases h
        · rw [if_neg q2] at h ⊢
          by_cases q3 : l ∈ s.2.1
          · rw [if_pos q3] at h
            cases h
          · rw [if_neg q3]
            have h7 := a7 q1
            refine ⟨by show 2 ≤ 4; omega, ?_, a3, a4, fun l' hl' => ?_, a6, fun z => absurd z (by show ¬ 2 = 1; omega), fun _ => ?_, a9, a10⟩
            · show (s.2.1 ++ [l]).length ≤ 10
              rw [List.length_append]
              show s.2.1.length + 1 ≤ 10
              omega
            · rcases List.mem_append.mp hl' with z | z
              · exact a5 l' z
              · rw [List.mem_singleton.mp z]
                exact hokn
            · show 0 < (s.2.1 ++ [l]).length
              rw [List.length_append]
              show 0 < s.2.1.length + 1
              omega
      · rw [if_neg q1] at h ⊢
        by_cases q3 : s.1 = 3
        · rw [if_pos q3] at h ⊢
          by_cases q4 : l ∈ s.2.2.1
          · rw [if_pos q4] at h
            cases h
          · rw [if_neg q4] at h ⊢
            by_cases q5 : ¬ s.2.2.1.length < 14
            · rw [if_pos q5] at h
              cases h
            · rw [if_neg q5]
              have hp := a8 (by omega)
              refine ⟨by show 4 ≤ 4; omega, a2, ?_, ?_, a5, fun l' hl' => ?_, fun z => absurd z (by show ¬ 4 = 1; omega), fun _ => hp, fun x hx => ?_, ?_⟩
              · show (s.2.2.1 ++ [l]).length ≤ 14
                rw [List.length_append]
                show s.2.2.1.length + 1 ≤ 14
                omega
              · show (s.2.2.2 ++ [s.2.1.length - 1]).length = (s.2.2.1 ++ [l]).length
                rw [List.length_append, List.length_append, a4]
                rfl
              · rcases List.mem_append.mp hl' with z | z
                · exact a6 l' z
                · rw [List.mem_singleton.mp z]
                  exact hokn
              · rcases List.mem_append.mp hx with z | z
                · exact a9 x z
                · rw [List.mem_singleton.mp z]
                  omega
              · show (s.2.2.1 ++ [l]).Nodup
                rw [List.nodup_append]
                refine ⟨a10, by simp, fun x hx y hy => ?_⟩
                rw [List.mem_singleton.mp hy]
                intro e
                rw [e] at hx
                exact q4 hx
        · rw [if_neg q3] at h
          cases h
theorem stepS_ok {s : PSt} {c : Nat} (ho : okS s) (h : (stepS s c).1 = 0) : okS (stepS s c).2 := by
  obtain ⟨a1, a2, a3, a4, a5, a6, a7, a8, a9, a10⟩ := ho
  unfold stepS at h ⊢
  by_cases q0 : ¬ (c = 61 ∨ c = 124 ∨ c = 59)
  · rw [if_pos q0] at h
    cases h
  · rw [if_neg q0] at h ⊢
    by_cases q1 : c = 61 ∧ s.1 = 2
    · rw [if_pos q1]
      exact ⟨by show 3 ≤ 4; omega, a2, a3, a4, a5, a6, fun z => absurd z (by show ¬ 3 = 1; omega), fun _ => a8 (by omega), a9, a10⟩
    · rw [if_neg q1] at h ⊢
      by_cases q2 : c = 124 ∧ s.1 = 4
      · rw [if_pos q2]
        exact ⟨by show 3 ≤ 4; omega, a2, a3, a4, a5, a6, fun z => absurd z (by show ¬ 3 = 1; omega), fun _ => a8 (by omega), a9, a10⟩
      · rw [if_neg q2] at h ⊢
        by_cases q3 : c = 59 ∧ s.1 = 4
        · rw [if_pos q3]
          exact ⟨by show 0 ≤ 4; omega, a2, a3, a4, a5, a6, fun z => absurd z (by show ¬ 0 = 1; omega), fun z => absurd z (by show ¬ 2 ≤ 0; omega), a9, a10⟩
        · rw [if_neg q3] at h
          cases h
theorem CBy.fr {W : Nat → Nat → Prop} {h h' : PH} {B : List Nat} (hf : Fr W h h') (hw : ∀ k, ¬ W 1 k) (hB : CBy h B) : CBy h' B := ⟨hB.1, fun k n hn => ⟨(hB.2 k n hn).1, (hf.i _ _ (hw k)).trans (hB.2 k n hn).2⟩⟩
theorem st_le (s : PSt) (l : List Nat) : (stepR s l).1 ≤ 4 := by
  unfold stepR
  repeat' split
  all_goals exact Nat.le_of_ble_eq_true rfl
theorem stS_le (s : PSt) (c : Nat) : (stepS s c).1 ≤ 4 := by
  unfold stepS
  repeat' split
  all_goals exact Nat.le_of_ble_eq_true rfl
def Wtl (c k : Nat) : Prop := 8 ≤ c ∧ c ≤ 12
theorem fr9 {h : PH} {k : Nat} {v : Int32} : Fr Wtl h (w_i h 8 k v) := Fr.wi h v ⟨by omega, by omega⟩
/-- what the teller holds at its end -/
def TFin (h : PH) (r : Nat × Nat × PSt) : Prop := h_i h 8 7 = nI r.1 ∧ (r.1 = 0 → h_i h 8 8 = -1 ∧ CTl h r.2.2 ∧ okS r.2.2) ∧ (¬ r.1 = 0 → h_i h 8 8 = nI r.2.1)
theorem te_tell {d : Nat} {h : PH} {Q : PQ} {B : List Nat} (hO : OwS h) (hB : CBy h B) (k : ∀ h', TFin h' (prs B (B.length + 1) 0 (0, [], [], [])) → Fr Wtl h h' → Q none h') : wpm (d + 3) 83 [.ref 8, .ref 1, .int (nI B.length)] h Q := by
  refine wpm_in P_Te_tell rfl (by decide) (by show ¬ 5 < 3; decide) (B_Te_tell_0 (os_teller hO) ?_)
  have h6 := hB.1
  have fin : ∀ (e p : Nat) (s : PSt) (x3 : Int32) (v4 : Value) (g : PH), prs B (B.length + 1) 0 (0, [], [], []) = (e, p, s) → e ≤ 4 → ¬ e = 0 → h_i g 8 7 = nI e → h_i g 8 8 = nI p → Fr Wtl h g → wpx (d + 2) P_Te_tell 118 [.ref 8, .ref 1, .int (nI B.length), .int x3, v4] [] g Q := fun e p s x3 v4 g hp he4 he h7 h8 hf => by
    refine B_Te_tell_118 (os_teller (hf.ow hO)) (fun _ => B_Te_tell_142 (k g ?_ hf)) (fun z => ?_)
    · rw [hp]
      exact ⟨h7, fun z => absurd z he, fun _ => h8⟩
    · rw [h7] at z
      exact absurd ((nI_eq (b := 0) (by omega) (by omega)).mp z) he
  have loop : ∀ (f p : Nat) (s : PSt) (g : PH) (v4 : Value), B.length + 1 - p ≤ f → p ≤ B.length → prs B (B.length + 1) 0 (0, [], [], []) = prs B f p s → CTl g s → okS s → h_i g 8 7 = 0 → h_i g 8 8 = -1 → Fr Wtl h g → wpx (d + 2) P_Te_tell 27 [.ref 8, .ref 1, .int (nI B.length), .int (nI p), v4] [] g Q := by
    intro f
    induction f with
    | zero => intro p s g v4 hf; omega
    | succ f ih =>
      intro p s g v4 hfu hp hans hs ho h7 h8 hf
      have hO' := hf.ow hO
      have hT := os_teller hO'
      have hB' : CBy g B := hB.fr hf (fun k q => by unfold Wtl at q; omega)
      have h4 := ho.1
      have eprs : prs B (f + 1) p s = if B.length ≤ p then (if s.1 = 0 then (0, p, s) else (2, B.length, s)) else if 0 < (rowAt B p).length then (if (stepR s (rowAt B p)).1 = 0 then prs B f (p + (rowAt B p).length) (stepR s (rowAt B p)).2 else ((stepR s (rowAt B p)).1, p, s)) else if B.getD p 0 = 32 ∨ B.getD p 0 = 10 then prs B f (p + 1) s else (if (stepS s (B.getD p 0)).1 = 0 then prs B f (p + 1) (stepS s (B.getD p 0)).2 else ((stepS s (B.getD p 0)).1, p, s)) := rfl
      rw [eprs] at hans
      refine B_Te_tell_27 (fun q => ?_) (fun q => B_Te_tell_32 hT (fun z => absurd h7 z) (fun _ => B_Te_tell_39 (te_rowStop hO' hB' hp ?_)))
      · rw [nI_leI (by omega) (by omega)] at q
        rw [if_pos q] at hans
        refine B_Te_tell_118 hT (fun z => absurd h7 z) (fun _ => B_Te_tell_125 hT (fun z => ?_) (fun z => ?_))
        · rw [hs.1] at z
          have z0 := (nI_eq (b := 0) (by omega) (by omega)).mp z
          rw [if_pos z0] at hans
          refine B_Te_tell_142 (k g ?_ hf)
          rw [hans]
          exact ⟨h7, fun _ => ⟨h8, hs, ho⟩, fun y => absurd rfl y⟩
        · rw [hs.1] at z
          have z0 : ¬ s.1 = 0 := fun y => z ((nI_eq (b := 0) (by omega) (by omega)).mpr y)
          rw [if_neg z0] at hans
          refine B_Te_tell_132 hT (B_Te_tell_142 (k _ ?_ (hf.tr (fr9.tr fr9))))
          rw [hans]
          exact ⟨by rw [wi_ne _ _ (by omega), wi_eq]; rfl, fun y => absurd y (by show ¬ 2 = 0; omega), fun _ => wi_eq _ _ _ _⟩
      · rw [nI_leI (by omega) (by omega)] at q
        rw [if_neg q] at hans
        have hle := rlen_le B p hp
        -- behind an error
        have bad : ∀ (e : Nat) (g2 : PH) (x4 : Int32), prs B (B.length + 1) 0 (0, [], [], []) = (e, p, s) → e ≤ 4 → ¬ e = 0 → h_i g2 8 7 = nI e → Fr Wtl h g2 → wpx (d + 2) P_Te_tell 94 [.ref 8, .ref 1, .int (nI B.length), .int (nI p), .int x4] [] g2 Q := fun e g2 x4 hpr he4 he h72 hf2 => by
          have hT2 := os_teller (hf2.ow hO)
          refine B_Te_tell_94 hT2 (fun z => ?_) (fun _ => B_Te_tell_101 hT2 (B_Te_tell_106 ?_))
          · rw [h72] at z
            exact absurd ((nI_eq (b := 0) (by omega) (by omega)).mp z) he
          · have hf3 : Fr Wtl h (w_i g2 8 8 (nI p)) := hf2.tr fr9
            have e7 : h_i (w_i g2 8 8 (nI p)) 8 7 = nI e := by rw [wi_ne _ _ (by omega)]; exact h72
            refine B_Te_tell_27 (fun _ => fin e p s _ _ _ hpr he4 he e7 (wi_eq _ _ _ _) hf3) (fun _ => B_Te_tell_32 (os_teller (hf3.ow hO)) (fun _ => fin e p s _ _ _ hpr he4 he e7 (wi_eq _ _ _ _) hf3) (fun z => ?_))
            rw [e7] at z
            exact absurd ((nI_eq (b := 0) (by omega) (by omega)).mp z) he
        -- and without one
        have good : ∀ (s2 : PSt) (g2 : PH) (n : Nat), p < n → n ≤ B.length → (n = p + rlen B p ∨ (n = p + 1 ∧ rlen B p = 0)) → prs B (B.length + 1) 0 (0, [], [], []) = prs B f n s2 → CTl g2 s2 → okS s2 → h_i g2 8 7 = 0 → h_i g2 8 8 = -1 → Fr Wtl h g2 → wpx (d + 2) P_Te_tell 94 [.ref 8, .ref 1, .int (nI B.length), .int (nI p), .int (nI (p + rlen B p))] [] g2 Q := fun s2 g2 n hn1 hn2 hn3 hpr hs2 ho2 h72 h82 hf2 => by
          have hT2 := os_teller (hf2.ow hO)
          refine B_Te_tell_94 hT2 (fun _ => B_Te_tell_106 ?_) (fun z => absurd h72 z)
          have em : (if nI (p + rlen B p) < nI p + (1 : Int32) then nI p + (1 : Int32) else nI (p + rlen B p)) = nI n := by
            rw [nI_1]
            by_cases z : p + rlen B p < p + 1
            · rw [if_pos ((nI_ltI (by omega) (by omega)).mpr z)]
              congr 1
              omega
            · rw [if_neg (fun y => z ((nI_ltI (by omega) (by omega)).mp y))]
              congr 1
              omega
          rw [em]
          exact ih n s2 g2 _ (by omega) hn2 hpr hs2 ho2 h72 h82 hf2
        refine B_Te_tell_45 (fun z => ?_) (fun z => ?_)
        · rw [nI_leI (by omega) (by omega)] at z
          have z0 : rlen B p = 0 := by omega
          rw [if_neg (by rw [rowAt_len]; omega)] at hans
          have gb : B[p]? = some B[p] := List.getElem?_eq_getElem (by omega)
          generalize B[p] = c at gb
          have eb : B.getD p 0 = c := by rw [List.getD_eq_getElem?_getD, gb]; rfl
          obtain ⟨c1, c2⟩ := hB'.2 p c gb
          have ec : h_i g 1 (nI p).toNatClampNeg = (nI c).toInt8.toInt32 := by rw [nI_clamp (by omega)]; exact c2
          have va : vp_in (nI p) 600 := vp_in_nI (by omega) (by omega)
          rw [eb] at hans
          refine B_Te_tell_71 (os_tape hO') va (fun y => ?_) (fun y => B_Te_tell_79 (os_tape hO') va (fun u => ?_) (fun u => B_Te_tell_87 (os_tape hO') va hT ?_))
          · rw [ec] at y
            have y' := (sb_is c c1 32 (by omega)).mp y
            rw [if_pos (Or.inl y')] at hans
            exact good s g (p + 1) (by omega) (by omega) (Or.inr ⟨rfl, z0⟩) hans hs ho h7 h8 hf
          · rw [ec] at u
            have u' := (sb_is c c1 10 (by omega)).mp u
            rw [if_pos (Or.inr u')] at hans
            exact good s g (p + 1) (by omega) (by omega) (Or.inr ⟨rfl, z0⟩) hans hs ho h7 h8 hf
          · rw [ec] at y u ⊢
            rw [if_neg (fun w => w.elim (fun w => y ((sb_is c c1 32 (by omega)).mpr w)) (fun w => u ((sb_is c c1 10 (by omega)).mpr w)))] at hans
            refine te_takeSign (d := d + 1) hO' hs ho h7 (sb_is c c1) (fun g2 hr hf2 => ?_)
            have hF : Fr Wtl h g2 := hf.tr (hf2.up (fun a k q => ⟨q.1, q.2.1⟩))
            by_cases w : (stepS s c).1 = 0
            · rw [if_pos w] at hans
              obtain ⟨r1, r2⟩ := hr.1 w
              exact good _ g2 (p + 1) (by omega) (by omega) (Or.inr ⟨rfl, z0⟩) hans r1 (stepS_ok ho w) r2 ((hf2.i _ _ (fun q => q.2.2 ⟨rfl, rfl⟩)).trans h8) hF
            · rw [if_neg w] at hans
              exact bad _ g2 _ hans (stS_le s c) w (hr.2 w) hF
        · rw [nI_leI (by omega) (by omega)] at z
          have z0 : 0 < rlen B p := by omega
          rw [if_pos (by rw [rowAt_len]; omega), rowAt_len] at hans
          refine B_Te_tell_53 (te_rowCode hO' hB' hp (fun v hv => B_Te_tell_61 hT ?_))
          rw [show nI (p + rlen B p) - nI p = nI (rlen B p) from by rw [nI_subN (by omega)]; congr 1; omega, ← rowAt_len]
          refine te_takeRow hO' hs ho h7 (by rw [rowAt_len]; omega) rowAt_ok (by rw [rowAt_len]; omega) hv (fun g2 hr hf2 => B_Te_tell_68 ?_)
          have hF : Fr Wtl h g2 := hf.tr (hf2.up (fun a k q => ⟨q.1, q.2.1⟩))
          by_cases w : (stepR s (rowAt B p)).1 = 0
          · rw [if_pos w] at hans
            obtain ⟨r1, r2⟩ := hr.1 w
            rw [rowAt_len]
            exact good _ g2 (p + rlen B p) (by omega) (by omega) (Or.inl rfl) hans r1 (stepR_ok ho rowAt_ok (by rw [rowAt_len]; omega) w) r2 ((hf2.i _ _ (fun q => q.2.2 ⟨rfl, rfl⟩)).trans h8) hF
          · rw [if_neg w] at hans
            exact bad _ g2 _ hans (st_le s _) w (hr.2 w) hF
  have z : ∀ g, Fr Wtl h g → CTl g (0, [], [], []) → h_i g 8 7 = 0 → h_i g 8 8 = -1 → ∀ v4, wpx (d + 2) P_Te_tell 27 [.ref 8, .ref 1, .int (nI B.length), .int 0, v4] [] g Q := fun g hf hs h7 h8 v4 => loop (B.length + 1) 0 (0, [], [], []) g v4 (by omega) (Nat.zero_le _) rfl hs ⟨by decide, by decide, by decide, rfl, fun l hl => (by cases hl), fun l hl => (by cases hl), fun y => absurd y (by decide), fun y => absurd y (by decide), fun x hx => (by cases hx), List.nodup_nil⟩ h7 h8 hf
  refine z _ (fr9.tr (fr9.tr (fr9.tr (fr9.tr fr9)))) ⟨?_, ?_, ?_, fun k l hl => (by cases hl), fun k l hl => (by cases hl), fun k x hx => (by cases hx)⟩ ?_ ?_ _
  · rw [wi_ne _ _ (by omega), wi_ne _ _ (by omega), wi_eq]
    rfl
  · rw [wi_ne _ _ (by omega), wi_ne _ _ (by omega), wi_ne _ _ (by omega), wi_ne _ _ (by omega), wi_eq]
    rfl
  · rw [wi_ne _ _ (by omega), wi_ne _ _ (by omega), wi_ne _ _ (by omega), wi_eq]
    rfl
  · rw [wi_ne _ _ (by omega), wi_eq]
  · rw [wi_eq]
