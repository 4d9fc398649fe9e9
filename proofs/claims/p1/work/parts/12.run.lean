/-! THE PURE MACHINE: whole runs -/
/-- where a method ends: the instruction, and what it answers -/
def RetAt (M : PM) (pc : Nat) (r : Option Value) : Prop := match r with
  | some (.int v) => decode (m_b M) pc = .ok (.ireturn, 1) ∧ ∃ ty, m_ret M = some ty ∧ narrow ty (.int v) = .int v
  | some (.long _) => decode (m_b M) pc = .ok (.lreturn, 1) ∧ m_ret M = some .long
  | some (.ref _) => decode (m_b M) pc = .ok (.areturn, 1) ∧ ∃ ty, m_ret M = some ty ∧ ((∃ n, ty = .object n) ∨ ∃ t, ty = .array t)
  | none => decode (m_b M) pc = .ok (.return_, 1) ∧ m_ret M = none
  | _ => False
theorem ret_at {M : PM} {pc : Nat} {i : PI} {st : List Value} {h : PH} {r : Option Value × PH} (hc : c_ret M pc i = true) (he : px_ret M i st h = some r) : RetAt M pc r.1 ∧ r.2 = h ∧ st = r.1.toList := by
  unfold px_ret at he
  split at he
  next v hi =>
    unfold c_ret at hc
    rw [hi] at hc
    split at hc
    next hd _ =>
      split at he
      next ty hty =>
        split at he
        next hn => cases he; exact ⟨⟨hd, ty, hty, hn⟩, rfl, rfl⟩
        · cases he
      · cases he
    next h1 h2 => cases h2
    next h1 h2 => cases h2
    next h1 h2 => cases h2
    · cases hc
  next v hi =>
    unfold c_ret at hc
    rw [hi] at hc
    split at hc
    next h1 h2 => cases h2
    next hd _ => cases he; exact ⟨⟨hd, beq_iff_eq.mp hc⟩, rfl, rfl⟩
    next h1 h2 => cases h2
    next h1 h2 => cases h2
    · cases hc
  next a hi =>
    unfold c_ret at hc
    rw [hi] at hc
    split at hc
    next h1 h2 => cases h2
    next h1 h2 => cases h2
    next hd _ =>
      cases he
      split at hc
      next n hn => exact ⟨⟨hd, _, hn, Or.inl ⟨_, rfl⟩⟩, rfl, rfl⟩
      next n hn => exact ⟨⟨hd, _, hn, Or.inr ⟨_, rfl⟩⟩, rfl, rfl⟩
      · cases hc
    next h1 h2 => cases h2
    · cases hc
  next hi =>
    unfold c_ret at hc
    rw [hi] at hc
    split at hc
    next h1 h2 => cases h2
    next h1 h2 => cases h2
    next h1 h2 => cases h2
    next hd _ => cases he; exact ⟨⟨hd, beq_iff_eq.mp hc⟩, rfl, rfl⟩
    · cases hc
  · cases he
theorem exec_sound {G : Gx} {p : Program} {l : Launch} {e : Env} {R : Room} {s : State} {m : MethodId} {args : Array Value} {below : List Frame} {meth : Method} {c : Code} {Q : State → Prop} {mOf : Nat → PM} {mlT mlN : List (Nat × Nat × Nat)} (hT : TOK mOf mlT mlN) {M : PM} (hMc : codeOK mOf mlT mlN M) {d : Nat} {call : PCall}
    (hcall : ∀ id as h r, call id as h = some r → m_code (mOf id) ≠ [] ∧ MetP G l (mOf id) d as h r) (F : Fx G p s m args meth c R (m_o M) (m_ini M) (m_b M) (m_L M)) (hR : d + 2 ≤ R.frames ∧ 60 + 100 * (d + 1) ≤ R.locals) {rE : Option Value × PH} {CE SE : Nat} (hCE : CE ≤ R.cells) (hSE : SE ≤ R.slots)
    (kret : ∀ (H' : Heap) (locs' : List Loc) (rls' : Array Slot) (pc' : Nat), Wh G rE.2 H' → va_S (Ax G) s.heap H' locs' → RetAt M pc' rE.1 → W p l e R s m args below meth c H' locs' CE SE Q (F0 m pc' rls' (rE.1.toList.map (tr G)))) :
    ∀ (n pc : Nat) (pls pst : List Value) (h : PH) (H : Heap) (locs : List Loc) (cells slots : Nat) (rls : Array Slot), px_exec mOf call M n pc pls pst h = some rE → Wh G h H → va_S (Ax G) s.heap H locs → LV G rls (m_L M) pls → cells + (h_ct rE.2 - h_ct h) = CE → slots + (h_sl rE.2 - h_sl h) = SE → W p l e R s m args below meth c H locs cells slots Q (F0 m pc rls (pst.map (tr G))) := by
  intro n
  induction n with
  | zero => intro pc pls pst h H locs cells slots rls he; cases he
  | succ n ih =>
    intro pc pls pst h H locs cells slots rls he hW hS hL e1 e2
    unfold px_exec at he
    split at he
    · cases he
    next i hi =>
      have hck := hMc pc i hi
      unfold chkI at hck
      split at he
      next hlt =>
        rw [if_pos hlt] at hck
        split at he
        · cases he
        next q hq =>
          rw [hq] at hck
          split at he
          · cases he
          next r1 hr =>
            split at he
            next hle =>
              have m1 := h_leB_le hle
              have m2 := px_mono _ _ _ _ _ _ _ _ _ he
              obtain ⟨m1a, m1b⟩ := m1
              obtain ⟨m2a, m2b⟩ := m2
              refine HS_ok q (List.mem_of_getElem? hq) G p l e R s m args below meth c Q (m_o M) (m_ini M) (m_b M) (m_L M) i pc pls pst h r1 H locs cells slots rls F hck hr hW hS hL (by omega) (by omega) ?_
              intro H' locs' rls' w1 w2 w3
              exact ih _ _ _ _ H' locs' _ _ rls' he w1 w2 w3 (by omega) (by omega)
            · cases he
      next hge =>
        rw [if_neg hge] at hck
        split at he
        next h110 =>
          rw [if_pos h110] at hck
          split at he
          next hcond =>
            split at he
            · cases he
            next r1 hr =>
              split at he
              next hle =>
                obtain ⟨m1a, m1b⟩ := h_leB_le hle
                obtain ⟨m2a, m2b⟩ := px_mono _ _ _ _ _ _ _ _ _ he
                obtain ⟨hne, hM⟩ := hcall _ _ _ _ hr
                refine call_sound hT F hR hck hne hcond.1 hcond.2.1 hcond.2.2 hM hW hS hL.1.1 (by omega) (by omega) ?_
                intro H' locs' w1 w2
                exact ih _ _ _ _ H' locs' _ _ rls he w1 w2 hL (by omega) (by omega)
              · cases he
          · cases he
        next hn110 =>
          rw [if_neg hn110] at hck
          obtain ⟨r1, r2, r3⟩ := ret_at hck he
          rw [← r2] at e1 e2
          simp only [Nat.sub_self, Nat.add_zero] at e1 e2
          subst e1
          subst e2
          rw [r3]
          exact kret H locs rls pc (by rw [r2]; exact hW) hS r1
theorem lvs_ents (G : Gx) (nL : Nat) (as : List Value) : ∀ q ∈ lvs G (ents nL as), q ∈ lv_args 0 (as.map (tr G)) := by
  have key : ∀ (as pre : List Value) (k : Nat) (q : Nat × Value), (∃ v, (as.flatMap ent1 ++ List.replicate k (.retAddr 0))[q.1]? = some v ∧ okv (as.flatMap ent1 ++ List.replicate k (.retAddr 0)) q.1 v = true ∧ q.2 = tr G v) → ∀ off, (q.1 + off, q.2) ∈ lv_args off (as.map (tr G)) := by
    intro as
    induction as with
    | nil =>
      intro pre k q ⟨v, h1, h2, h3⟩ off
      simp only [List.flatMap_nil, List.nil_append] at h1
      rw [List.getElem?_replicate] at h1
      split at h1
      · cases h1; cases h2
      · cases h1
    | cons a as ih =>
      intro pre k q ⟨v, h1, h2, h3⟩ off
      obtain ⟨j, w⟩ := q
      dsimp only at h1 h2 h3 ⊢
      rw [List.map_cons]
      unfold lv_args
      rw [List.flatMap_cons, List.append_assoc] at h1 h2
      by_cases hcat : a.category = 2
      · rw [if_pos (show (tr G a).category = 2 by rw [tr_cat]; exact hcat)]
        have hent : ent1 a = [a, .retAddr 2] := if_pos hcat
        rw [hent] at h1 h2
        simp only [List.cons_append, List.nil_append] at h1 h2
        match j with
        | 0 =>
          simp at h1
          subst h1
          rw [h3, Nat.zero_add]
          exact List.mem_cons_self
        | 1 =>
          simp at h1
          subst h1
          cases h2
        | j + 2 =>
          refine List.mem_cons_of_mem _ ?_
          have := ih [] k (j, w) ⟨v, by simpa using h1, ?_, h3⟩ (off + 2)
          · dsimp only at this
            rw [show j + 2 + off = j + (off + 2) by omega]
            exact this
          · cases v <;> first | rfl | exact h2 | (simp only [okv] at h2 ⊢; simpa using h2)
      · rw [if_neg (show ¬ (tr G a).category = 2 by rw [tr_cat]; exact hcat)]
        have hent : ent1 a = [a] := if_neg hcat
        rw [hent] at h1 h2
        simp only [List.cons_append, List.nil_append] at h1 h2
        match j with
        | 0 =>
          simp at h1
          subst h1
          rw [h3, Nat.zero_add]
          exact List.mem_cons_self
        | j + 1 =>
          refine List.mem_cons_of_mem _ ?_
          have := ih [] k (j, w) ⟨v, by simpa using h1, ?_, h3⟩ (off + 1)
          · dsimp only at this
            rw [show j + 1 + off = j + (off + 1) by omega]
            exact this
          · cases v <;> first | rfl | exact h2 | (simp only [okv] at h2 ⊢; simpa using h2)
  intro q hq
  have := key as [] _ q (mem_lvs.mp hq) 0
  simpa using this
theorem ents_len {nL : Nat} {as : List Value} (h : ¬ nL < (as.flatMap ent1).length) : (ents nL as).length = nL := by
  unfold ents
  rw [List.length_append, List.length_replicate]
  omega
theorem lg_len (G : Gx) : ∀ as : List Value, (lg_sl (as.map (tr G))).length = (as.flatMap ent1).length
  | [] => rfl
  | a :: as => by
    have h := lg_len G as
    unfold lg_sl at h ⊢
    rw [List.map_cons, List.flatMap_cons, List.flatMap_cons, List.length_append, List.length_append, h, tr_cat]
    by_cases hc : a.category = 2
    · rw [if_pos hc, ent1, if_pos hc]; rfl
    · rw [if_neg hc, ent1, if_neg hc]; rfl
theorem px_code {mOf : Nat → PM} {call : PCall} {M : PM} {n pc : Nat} {ls st : List Value} {h : PH} {r : Option Value × PH} (he : px_exec mOf call M n pc ls st h = some r) : m_code M ≠ [] := by
  intro h0
  cases n with
  | zero => cases he
  | succ n =>
    unfold px_exec at he
    rw [h0] at he
    cases he
/-- every call that the pure machine makes, the real one makes: the contract of each method, for each of its runs -/
theorem run_sound {mOf : Nat → PM} {mlT mlN : List (Nat × Nat × Nat)} (hT : TOK mOf mlT mlN) (G : Gx) (l : Launch) (n : Nat) : ∀ (d id : Nat) (as : List Value) (h : PH) (r : Option Value × PH), px_run mOf d n id as h = some r → m_code (mOf id) ≠ [] ∧ MetP G l (mOf id) d as h r := by
  intro d
  induction d with
  | zero => intro id as h r he; cases he
  | succ d ih =>
    intro id as h r he
    unfold px_run at he
    split at he
    · cases he
    next hcond =>
      have hne := px_code he
      refine ⟨hne, ?_⟩
      obtain ⟨⟨w1, w2, w3, w4, w5, w6, w7, w8, w9, w10, w11⟩, hMc⟩ := hT.1 _ hne
      unfold MetP
      refine Met.ofW (cc := m_b (mOf id)) (maxL := m_L (mOf id)) (ret := m_ret (mOf id)) w2 rfl ?_
      intro p e s m args below meth c s₁ B hml hv
      obtain ⟨rfl, hW, hK⟩ := hv
      have hx := B.exec
      have hb := B.bytes
      have hr := B.returns
      have hts := atoms_spec (ws := m_ws (mOf id)) B.pre
      have hown : s.vm.findClass (m_y (mOf id)).cls = some m.cls := findClass_of_methodNamed B.named
      have hlocks := B.notSynchronized
      have hnm : meth.name = (m_y (mOf id)).name := (name_of_methodNamed B.named B.method).1
      have hlen : ¬ m_L (mOf id) < (as.flatMap ent1).length := fun q => hcond (Or.inr q)
      rw [lg_entry_eq]
      have hl := lv_entry (as.map (tr G)) (n := m_L (mOf id)) (by rw [lg_len]; omega)
      generalize (lg_sl (as.map (tr G)) ++ List.replicate (m_L (mOf id) - (lg_sl (as.map (tr G))).length) Slot.unset).toArray = ls at hl ⊢
      have hL : LV G ls (m_L (mOf id)) (ents (m_L (mOf id)) as) := ⟨lv_mono hl (lvs_ents G _ as), ents_len hlen⟩
      show W p l e (rmOf (d + 1) (h_ct r.2 - h_ct h) (h_sl r.2 - h_sl h)) s m _ below meth c s.heap [] 0 0 _ _
      have F : Fx G p s m (as.map (tr G)).toArray meth c (rmOf (d + 1) (h_ct r.2 - h_ct h) (h_sl r.2 - h_sl h)) (m_o (mOf id)) (m_ini (mOf id)) (m_b (mOf id)) (m_L (mOf id)) :=
        ⟨hx, hb, hml, by rw [← w1]; exact hown, fun w hw => hts w (List.mem_cons_of_mem _ hw), hK, fun hi => by rw [hnm]; exact beq_iff_eq.mp hi, by show 1 ≤ d + 1 + 1; omega, by show 60 ≤ 60 + 100 * (d + 1); omega, by rw [hW.1]; omega, fun ho => absurd (Or.inl ho) hcond⟩
      refine exec_sound hT hMc (call := px_run mOf d n) (d := d) ih F ⟨Nat.le_refl _, Nat.le_refl _⟩ (rE := r) (CE := h_ct r.2 - h_ct h) (SE := h_sl r.2 - h_sl h) (Nat.le_refl _) (Nat.le_refl _) ?_ n 0 (ents (m_L (mOf id)) as) [] h s.heap [] 0 0 ls he hW va_S.rf hL (Nat.zero_add _) (Nat.zero_add _)
      intro H' locs' rls' pc' hW' hS' hret
      obtain ⟨r1, h'⟩ := r
      dsimp only at hW' hret ⊢
      match r1, hret with
      | some (.int v), hret =>
        obtain ⟨hd, ty, hty, hn⟩ := hret
        exact W.zret hx hb (hr.trans hty) hn (fun t ht hw => ⟨rfl, by rw [ht]; exact hW', hS'.F ht⟩) hS'.2.2 hd
      | some (.long v), hret =>
        obtain ⟨hd, hty⟩ := hret
        exact W.lret hx hb (hr.trans hty) (fun t ht hw => ⟨rfl, by rw [ht]; exact hW', hS'.F ht⟩) hS'.2.2 hd
      | some (.ref a), hret =>
        obtain ⟨hd, ty, hty, hrt⟩ := hret
        exact W.aret hx hb (hr.trans hty) hrt (Or.inr ⟨_, rfl⟩) (fun t ht hw => ⟨rfl, by rw [ht]; exact hW', hS'.F ht⟩) hS'.2.2 hd
      | none, hret =>
        obtain ⟨hd, hty⟩ := hret
        exact W.vret hx hb (hr.trans hty) (fun t ht hw => ⟨rfl, by rw [ht]; exact hW', hS'.F ht⟩) hS'.2.2 hd
