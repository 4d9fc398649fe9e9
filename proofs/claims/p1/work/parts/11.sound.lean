/-! THE PURE MACHINE: what it runs, the real one runs -/
def c_call (mOf : Nat → PM) (mlT mlN : List (Nat × Nat × Nat)) (M : PM) (pc : Nat) (i : PI) : Bool := match decode (m_b M) pc with
  | .ok (.invokestatic n, 3) => m_kd (mOf (p_b i)) == 0 && p_c i == m_np (mOf (p_b i)) && (if p_a i = 0 then mlT[p_e i]? == some (m_o M, n, p_b i) else mlN[p_e i]? == some (m_o M, n, p_b i))
  | .ok (.invokevirtual n, 3) => m_kd (mOf (p_b i)) == 1 && p_c i == m_np (mOf (p_b i)) + 1 && (if p_a i = 0 then mlT[p_e i]? == some (m_o M, n, p_b i) else mlN[p_e i]? == some (m_o M, n, p_b i))
  | .ok (.invokespecial n, 3) => m_kd (mOf (p_b i)) == 2 && p_c i == m_np (mOf (p_b i)) + 1 && (if p_a i = 0 then mlT[p_e i]? == some (m_o M, n, p_b i) else mlN[p_e i]? == some (m_o M, n, p_b i))
  | _ => false
def c_ret (M : PM) (pc : Nat) (i : PI) : Bool := match decode (m_b M) pc, i.1 with
  | .ok (.ireturn, 1), 100 => true
  | .ok (.lreturn, 1), 101 => m_ret M == some .long
  | .ok (.areturn, 1), 102 => (match m_ret M with
    | some (.object _) => true
    | some (.array _) => true
    | _ => false)
  | .ok (.return_, 1), 103 => m_ret M == none
  | _, _ => false
def chkI (mOf : Nat → PM) (mlT mlN : List (Nat × Nat × Nat)) (M : PM) (pc : Nat) (i : PI) : Bool :=
  if i.1 < 100 then (match HS[i.1]? with
    | some q => q.1 (m_o M) (m_ini M) (m_b M) pc i
    | none => false) else if i.1 = 110 then c_call mOf mlT mlN M pc i else c_ret M pc i
def codeOK (mOf : Nat → PM) (mlT mlN : List (Nat × Nat × Nat)) (M : PM) : Prop := ∀ (pc : Nat) (i : PI), (m_code M)[pc]? = some i → chkI mOf mlT mlN M pc i = true
def wordsOK (M : PM) : Prop := (m_y M).cls = cN (m_o M) ∧ plainName (m_y M).cls = true ∧ Cond.code (m_y M) (m_b M) (m_L M) (m_ret M) ∈ gt ∧ Cond.initialized (m_y M).cls ∈ gt ∧ (m_kd M = 0 → Cond.static (m_y M) ∈ gt) ∧ (m_kd M = 1 → Cond.instanceMethod (m_y M) ∈ gt ∧ Cond.selects (m_y M).cls (m_y M) (m_y M) ∈ gt ∧ ∃ (T : u_T) (N : Nat), cls[m_o M]? = some ((m_y M).cls, T, N)) ∧ (m_kd M = 2 → Cond.instanceMethod (m_y M) ∈ gt ∧ (m_y M).name = "<init>" ∧ m_ret M = none) ∧ (m_y M).cls ≠ "java/lang/invoke/MethodHandle" ∧ (m_y M).cls ≠ "java/lang/invoke/VarHandle" ∧ (parseMethodDescriptor (m_y M).desc).map (fun d => d.parameters.length) = some (m_np M) ∧ m_L M ≤ 80
def TOK (mOf : Nat → PM) (mlT mlN : List (Nat × Nat × Nat)) : Prop := (∀ id, m_code (mOf id) ≠ [] → wordsOK (mOf id) ∧ codeOK mOf mlT mlN (mOf id)) ∧ (∀ q ∈ mlT, Cond.methodLink (cN q.1) q.2.1 (m_y (mOf q.2.2)) ∈ gt) ∧ (∀ q ∈ mlN, Cond.methodLinkNest (cN q.1) q.2.1 (m_y (mOf q.2.2)) "OneWaySpell" ∈ nt)
def rmOf (d mc ms : Nat) : Room := { frames := d + 1, cells := mc, slots := ms, locals := 60 + 100 * d }
def PcP (G : Gx) (args : List Value) (h : PH) : Array Value → State → Prop := va_Pc (args.map (tr G)) (fun U => Wh G h U.heap ∧ Ks G U)
def Qr (G : Gx) (r : Option Value) (h' : PH) : Array Value → State → Outcome → State → Prop := fun _ st oc t => oc = .returned (r.map (tr G)) ∧ Wh G h' t.heap ∧ va_F (Ax G) st t
def m_ws (M : PM) : List Cond := Cond.code (m_y M) (m_b M) (m_L M) (m_ret M) :: gt
def MetP (G : Gx) (l : Launch) (M : PM) (d : Nat) (args : List Value) (h : PH) (r : Option Value × PH) : Prop := Met l (m_y M) (m_ws M) (rmOf d (h_ct r.2 - h_ct h) (h_sl r.2 - h_sl h)) (PcP G args h) (Qr G r.1 r.2) (h_ct r.2 - h_ct h) (h_sl r.2 - h_sl h) (Ax G)
theorem PcP_blind (G : Gx) (args : List Value) (h : PH) : FrameBlind (PcP G args h) := fun _ _ _ _ q => ⟨q.1, q.2.1, q.2.2.calling⟩
section QCALL
variable {p : Program} {l : Launch} {e : Env} {R : Room} {s : State} {m : MethodId} {args : Array Value} {below : List Frame} {meth : Method} {c : Code} {H : Heap} {locs : List Loc} {cells slots : Nat} {Q : State → Prop}
theorem q_call {G : Gx} {r : Option Value} {h' : PH} {a : Array Value} {mc ms pc : Nat} {ls : Array Slot} {st0 rest : List Value} (hr : va_Run p l e R s m args below meth c H locs cells slots mc ms (F0 m pc ls st0) rest (Qr G r h' a) (Ax G)) (hS : va_S (Ax G) s.heap H locs)
    (kk : ∀ (H1 : Heap) (locs1 : List Loc), Wh G h' H1 → va_S (Ax G) s.heap H1 locs1 → W p l e R s m args below meth c H1 locs1 (cells + mc) (slots + ms) Q (F0 m (pc + 3) ls ((r.map (tr G)).toList ++ rest))) : W p l e R s m args below meth c H locs cells slots Q (F0 m pc ls st0) := by
  intro T hT X
  obtain ⟨v, st₀, t, T', L, h0, X', hL, e1, e2, ⟨hv, hb, hz, hk⟩, st⟩ := hr T hT X
  have hv : v = r.map (tr G) := by injection hv
  subst hv
  rw [h0] at hz hk
  obtain ⟨t2, a1, b1⟩ := kk T'.heap (locs ++ L) (by rw [e1]; exact hb)
    ⟨Nat.le_trans hS.1 (by rw [e1]; exact hz), fun q h1 h2 => by rw [e1, hk q (Nat.lt_of_lt_of_le h1 hS.1) h2]; exact hS.2.1 q h1 h2, fun q hq => by
      rcases List.mem_append.mp hq with h | h
      · exact hS.2.2 q h
      · exact hL q h⟩ T' rfl X'
  exact ⟨t2, st t2 a1, b1⟩
/-- one call: by the contract of the method that it goes to -/
theorem call_sound {G : Gx} {mOf : Nat → PM} {mlT mlN : List (Nat × Nat × Nat)} (hT : TOK mOf mlT mlN) {M : PM} {d pc : Nat} {i : PI} {pst : List Value} {h : PH} {r : Option Value × PH} {rls : Array Slot} (F : Fx G p s m args meth c R (m_o M) (m_ini M) (m_b M) (m_L M)) (hR : d + 2 ≤ R.frames ∧ 60 + 100 * (d + 1) ≤ R.locals)
    (hc : c_call mOf mlT mlN M pc i = true) (hne : m_code (mOf (p_b i)) ≠ []) (h1 : p_c i ≤ pst.length) (h2 : (pst.drop (p_c i)).length ≤ 4) (h3 : recvOK (m_kd (mOf (p_b i))) (m_o (mOf (p_b i))) h (pst.take (p_c i)).reverse = true) (hM : MetP G l (mOf (p_b i)) d (pst.take (p_c i)).reverse h r)
    (hW : Wh G h H) (hS : va_S (Ax G) s.heap H locs) (hsz : rls.size = m_L M) (hcl : cells + (h_ct r.2 - h_ct h) ≤ R.cells) (hsl : slots + (h_sl r.2 - h_sl h) ≤ R.slots)
    (kk : ∀ (H1 : Heap) (locs1 : List Loc), Wh G r.2 H1 → va_S (Ax G) s.heap H1 locs1 → W p l e R s m args below meth c H1 locs1 (cells + (h_ct r.2 - h_ct h)) (slots + (h_sl r.2 - h_sl h)) Q (F0 m (pc + 3) rls ((r.1.toList ++ pst.drop (p_c i)).map (tr G)))) : W p l e R s m args below meth c H locs cells slots Q (F0 m pc rls (pst.map (tr G))) := by
  obtain ⟨hx, hb, hml, hown, hts, hK, -⟩ := F
  obtain ⟨w1, w2, w3, w4, w5, w6, w7, w8, w9, w10, w11⟩ := (hT.1 _ hne).1
  have hG : GoodIn gt (m_ws (mOf (p_b i))) := fun w hw => by
    rcases List.mem_cons.mp hw with rfl | hw
    · exact ⟨w3, gt_good w3⟩
    · exact ⟨hw, gt_good hw⟩
  have hst : pst.map (tr G) = ((pst.take (p_c i)).reverse.map (tr G)).reverse ++ (pst.drop (p_c i)).map (tr G) := by
    rw [← List.map_reverse, List.reverse_reverse, ← List.map_append, List.take_append_drop]
  have hlen : ((pst.take (p_c i)).reverse).length = p_c i := by simp; omega
  generalize has : (pst.take (p_c i)).reverse = as at hM h3 hst hlen
  have h8 : (((pst.drop (p_c i)).map (tr G)).map fun v => v.category).sum ≤ 8 := Nat.le_trans (cat_sum G _) (by omega)
  have hroom : (rmOf d (h_ct r.2 - h_ct h) (h_sl r.2 - h_sl h)).frames + 1 ≤ R.frames ∧ 8 + (m_L (mOf (p_b i)) + 11) + (rmOf d (h_ct r.2 - h_ct h) (h_sl r.2 - h_sl h)).locals ≤ R.locals := ⟨hR.1, by show 8 + (_ + 11) + (60 + 100 * d) ≤ _; omega⟩
  have hpre : ∀ U : State, U.heap = H → s.WarmedH U.vm → PcP G as h (as.map (tr G)).toArray U := fun U hU hw => ⟨rfl, by rw [hU]; exact hW, hK.warm hw⟩
  have kk : ∀ (H1 : Heap) (locs1 : List Loc), Wh G r.2 H1 → va_S (Ax G) s.heap H1 locs1 → W p l e R s m args below meth c H1 locs1 (cells + (h_ct r.2 - h_ct h)) (slots + (h_sl r.2 - h_sl h)) Q (F0 m (pc + 3) rls ((r.1.map (tr G)).toList ++ (pst.drop (p_c i)).map (tr G))) := fun H1 l1 a1 a2 => by
    have := kk H1 l1 a1 a2
    rw [List.map_append] at this
    cases hr1 : r.1 <;> rw [hr1] at this <;> exact this
  unfold c_call at hc
  split at hc
  next n hd =>
    simp only [Bool.and_eq_true, beq_iff_eq] at hc
    obtain ⟨⟨g1, g2⟩, g3⟩ := hc
    have hn : (as.map (tr G)).length = m_np (mOf (p_b i)) := by rw [List.length_map, hlen, g2]
    by_cases hz : p_a i = 0
    · rw [if_pos hz] at g3
      have hl := hT.2.1 _ (List.mem_of_getElem? (beq_iff_eq.mp g3))
      refine q_call (va_runS (nL := m_L M) (As := as.map (tr G)) (rest := (pst.drop (p_c i)).map (tr G)) (Ts := gt) ⟨hx, hb, hml, hown, hts⟩ hM ⟨callB_of (ws' := gt) (m_np (mOf (p_b i))) hts hG rfl rfl rfl (hts _ w4) (hts _ hl) ⟨w8, w9, w10⟩ hroom, hts _ (w5 g1)⟩ ⟨PcP_blind G _ _, hpre⟩ rfl hn hsz hst (lv_room h8) hd ⟨hcl, hsl⟩) hS kk
    · rw [if_neg hz] at g3
      have hl := hT.2.2 _ (List.mem_of_getElem? (beq_iff_eq.mp g3))
      refine q_call (va_runSN (nL := m_L M) (As := as.map (tr G)) (rest := (pst.drop (p_c i)).map (tr G)) (Ts := gt) ⟨hx, hb, hml, hown, hts⟩ hM ⟨va_cnB (ws' := gt) (m_np (mOf (p_b i))) hts hG rfl rfl rfl (hK.2 _ hl) (hts _ w4) ⟨w8, w9, w10⟩ hroom, hts _ (w5 g1), trivial⟩ ⟨PcP_blind G _ _, hpre⟩ rfl hn hsz hst (lv_room h8) hd ⟨hcl, hsl⟩) hS kk
  next n hd =>
    simp only [Bool.and_eq_true, beq_iff_eq] at hc
    obtain ⟨⟨g1, g2⟩, g3⟩ := hc
    rw [g1] at h3
    obtain ⟨w61, w62, T, N, w63⟩ := w6 g1
    match as, hM, h3, hst, hlen, hpre, has with
    | .ref b :: as, hM, h3, hst, hlen, hpre, has =>
      have hsh : h_sh h b = some (0, m_o (mOf (p_b i))) := beq_iff_eq.mp h3
      have hn : (as.map (tr G)).length = m_np (mOf (p_b i)) := by rw [List.length_map]; simp at hlen; omega
      have hst' : pst.map (tr G) = (as.map (tr G)).reverse ++ .ref (G.1 + b) :: (pst.drop (p_c i)).map (tr G) := by rw [hst]; simp [tr_ref]
      have hrecv := va_recv hK.1 (va_P1 (hW.at hsh)) w63 (ci := m_o (mOf (p_b i))) (q0 := 0) (fs := (List.range (fN (m_o (mOf (p_b i))))).map (fval G h (m_o (mOf (p_b i))) b)) rfl
      by_cases hz : p_a i = 0
      · rw [if_pos hz] at g3
        have hl := hT.2.1 _ (List.mem_of_getElem? (beq_iff_eq.mp g3))
        refine q_call (va_runV (nL := m_L M) (C := (m_y (mOf (p_b i))).cls) (b := G.1 + b) (As := as.map (tr G)) (rest := (pst.drop (p_c i)).map (tr G)) (Ts := gt) ⟨hx, hb, hml, hown, hts⟩ hM ⟨callB_of (ws' := gt) (m_np (mOf (p_b i))) hts hG rfl rfl rfl (hts _ w4) (hts _ hl) ⟨w8, w9, w10⟩ hroom, hts _ w61, hts _ w62⟩ ⟨PcP_blind G _ _, hrecv, hpre⟩ rfl hn hsz hst' (lv_room h8) hd ⟨hcl, hsl⟩) hS kk
      · rw [if_neg hz] at g3
        have hl := hT.2.2 _ (List.mem_of_getElem? (beq_iff_eq.mp g3))
        refine q_call (va_runVN (nL := m_L M) (C := (m_y (mOf (p_b i))).cls) (b := G.1 + b) (As := as.map (tr G)) (rest := (pst.drop (p_c i)).map (tr G)) (Ts := gt) ⟨hx, hb, hml, hown, hts⟩ hM ⟨va_cnB (ws' := gt) (m_np (mOf (p_b i))) hts hG rfl rfl rfl (hK.2 _ hl) (hts _ w4) ⟨w8, w9, w10⟩ hroom, hts _ w61, hts _ w62⟩ ⟨PcP_blind G _ _, hrecv, hpre⟩ rfl hn hsz hst' (lv_room h8) hd ⟨hcl, hsl⟩) hS kk
    | [], _, h3, _, _, _, _ => cases h3
    | .int _ :: _, _, h3, _, _, _, _ => cases h3
    | .long _ :: _, _, h3, _, _, _, _ => cases h3
    | .float _ :: _, _, h3, _, _, _, _ => cases h3
    | .double _ :: _, _, h3, _, _, _, _ => cases h3
    | .null :: _, _, h3, _, _, _, _ => cases h3
    | .retAddr _ :: _, _, h3, _, _, _, _ => cases h3
  next n hd =>
    simp only [Bool.and_eq_true, beq_iff_eq] at hc
    obtain ⟨⟨g1, g2⟩, g3⟩ := hc
    rw [g1] at h3
    obtain ⟨w71, w72, w73⟩ := w7 g1
    match as, hM, h3, hst, hlen, hpre, has with
    | .ref b :: as, hM, h3, hst, hlen, hpre, has =>
      have hn : (as.map (tr G)).length = m_np (mOf (p_b i)) := by rw [List.length_map]; simp at hlen; omega
      have hst' : pst.map (tr G) = (as.map (tr G)).reverse ++ .ref (G.1 + b) :: (pst.drop (p_c i)).map (tr G) := by rw [hst]; simp [tr_ref]
      have hw' : m_ws (mOf (p_b i)) = Cond.code (m_y (mOf (p_b i))) (m_b (mOf (p_b i))) (m_L (mOf (p_b i))) none :: gt := by rw [← w73]; rfl
      by_cases hz : p_a i = 0
      · rw [if_pos hz] at g3
        have hl := hT.2.1 _ (List.mem_of_getElem? (beq_iff_eq.mp g3))
        refine q_call (va_runI (nL := m_L M) (b := G.1 + b) (As := as.map (tr G)) (rest := (pst.drop (p_c i)).map (tr G)) (Ts := gt) ⟨hx, hb, hml, hown, hts⟩ hM ⟨callB_of (ws' := gt) (m_np (mOf (p_b i))) hts hG hw' rfl rfl (hts _ w4) (hts _ hl) ⟨w8, w9, w10⟩ hroom, w72, hts _ w71⟩ ⟨PcP_blind G _ _, hpre⟩ rfl hn hsz hst' (lv_room h8) hd ⟨hcl, hsl⟩) hS kk
      · rw [if_neg hz] at g3
        have hl := hT.2.2 _ (List.mem_of_getElem? (beq_iff_eq.mp g3))
        refine q_call (va_runIN (nL := m_L M) (b := G.1 + b) (As := as.map (tr G)) (rest := (pst.drop (p_c i)).map (tr G)) (Ts := gt) ⟨hx, hb, hml, hown, hts⟩ hM ⟨va_cnB (ws' := gt) (m_np (mOf (p_b i))) hts hG hw' rfl rfl (hK.2 _ hl) (hts _ w4) ⟨w8, w9, w10⟩ hroom, w72, hts _ w71⟩ ⟨PcP_blind G _ _, hpre⟩ rfl hn hsz hst' (lv_room h8) hd ⟨hcl, hsl⟩) hS kk
    | [], _, h3, _, _, _, _ => cases h3
    | .int _ :: _, _, h3, _, _, _, _ => cases h3
    | .long _ :: _, _, h3, _, _, _, _ => cases h3
    | .float _ :: _, _, h3, _, _, _, _ => cases h3
    | .double _ :: _, _, h3, _, _, _, _ => cases h3
    | .null :: _, _, h3, _, _, _, _ => cases h3
    | .retAddr _ :: _, _, h3, _, _, _, _ => cases h3
  · cases hc
end QCALL
