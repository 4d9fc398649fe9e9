/-! borders on the class's side: two rows of bits for each length -/
def BoS (h : PH) (b la cap : Nat) : Prop := h_sh h b = some (0, 0) ∧ (h_r h b 0 = some (b + 1) ∧ h_sh h (b + 1) = some (4, 10)) ∧ (h_r h b 1 = some (b + 2) ∧ h_sh h (b + 2) = some (4, 10)) ∧ (h_r h b 2 = some la ∧ h_sh h la = some (1, cap)) ∧ (h_r h b 4 = some (b + 4) ∧ h_sh h (b + 4) = some (1, 6)) ∧ 63 ≤ b ∧ b + 4 < h_ct h ∧ la < h_ct h ∧ (la = b + 3 ∨ b + 4 < la)
theorem BoS.fr {W : Nat → Nat → Prop} {h h' : PH} {b la cap : Nat} (hf : Fr W h h') (hS : BoS h b la cap) : BoS h' b la cap := by
  unfold BoS
  rw [hf.1, hf.2.1, hf.2.2.1]
  exact hS
def BSt (h : PH) (a n : Nat) (S : Nat → Prop) : Prop := ∃ A : Nat → Nat, (∀ i, A i < 2 ^ 64) ∧ (∀ i, i < 2 → h_l h a (2 * n + i) = lN (A i)) ∧ ∀ u, u < 128 → (S u ↔ inm (A (u / 64)) (u % 64))
theorem BSt.cg {h : PH} {a n : Nat} {S S' : Nat → Prop} (e : ∀ u, u < 128 → (S u ↔ S' u)) (hS : BSt h a n S) : BSt h a n S' := by
  obtain ⟨A, a1, a2, a3⟩ := hS
  exact ⟨A, a1, a2, fun u hu => (e u hu).symm.trans (a3 u hu)⟩
theorem BSt.same {h h' : PH} {a n : Nat} {S : Nat → Prop} (e : ∀ i, i < 2 → h_l h' a (2 * n + i) = h_l h a (2 * n + i)) (hS : BSt h a n S) : BSt h' a n S := by
  obtain ⟨A, a1, a2, a3⟩ := hS
  exact ⟨A, a1, fun i hi => (e i hi).trans (a2 i hi), a3⟩
theorem dv64 : ∀ v : Nat, v < 128 → nI v / (64 : Int32) = nI (v / 64) ∧ nI v - nI v / (64 : Int32) * (64 : Int32) = nI (v % 64) := by decide +kernel
theorem inm_0' {k : Nat} : ¬ inm 0 k := inm_0
theorem bo_put {d n u a : Nat} {h : PH} {Q : PQ} {S : Nat → Prop} (hs : h_sh h a = some (4, 10)) (hS : BSt h a n S) (hn : n < 5) (hu : u < 128) (k : ∀ h', BSt h' a n (fun w => S w ∨ w = u) → Fr (fun x k => x = a ∧ k / 2 = n) h h' → Q none h') : wpm (d + 1) 3 [.ref a, .int (nI n), .int (nI u)] h Q := by
  refine wpm_in P_Bo_put rfl (by decide) (by show ¬ 3 < 3; decide) ?_
  obtain ⟨A, a1, a2, a3⟩ := hS
  obtain ⟨e1, e2⟩ := dv64 u hu
  have ei : (2 : Int32) * nI n + nI u / (64 : Int32) = nI (2 * n + u / 64) := by rw [e1, show (2 : Int32) = nI 2 from rfl, nI_mulN, nI_add]
  refine B_Bo_put_0 hs (by rw [ei]; exact vp_in_nI (by omega) (by omega)) ?_
  rw [ei, e2, nI_clamp (show 2 * n + u / 64 < 2 ^ 31 by omega), a2 _ (by omega), show (1 : Int64) = lN 1 from rfl, nI_l (show u % 64 < 2 ^ 31 by omega)]
  have e3 : lN 1 <<< (lN (u % 64) &&& 63) = lN (2 ^ (u % 64)) := by
    have := l_shl (n := 1) (s := u % 64) (by omega)
    rw [nI_l (by omega), Nat.one_mul] at this
    exact this
  have p64 : 2 ^ (u % 64) < 2 ^ 64 := Nat.pow_lt_pow_right (by decide) (by omega)
  rw [e3, lN_orN (a1 _) p64]
  refine k _ ⟨fun i => if i = u / 64 then A (u / 64) ||| 2 ^ (u % 64) else A i, fun i => ?_, fun i hi => ?_, fun w hw => ?_⟩ (Fr.wl _ _ ⟨rfl, by omega⟩)
  · show (if i = u / 64 then A (u / 64) ||| 2 ^ (u % 64) else A i) < 2 ^ 64
    by_cases y : i = u / 64
    · rw [if_pos y]
      exact Nat.or_lt_two_pow (a1 _) p64
    · rw [if_neg y]
      exact a1 i
  · show _ = lN (if i = u / 64 then A (u / 64) ||| 2 ^ (u % 64) else A i)
    rw [h_l_wl]
    by_cases y : i = u / 64
    · rw [if_pos ⟨rfl, by rw [y]⟩, if_pos y]
    · rw [if_neg (fun z => y (by have := z.2; omega)), if_neg y]
      exact a2 i hi
  · show _ ↔ inm (if w / 64 = u / 64 then A (u / 64) ||| 2 ^ (u % 64) else A (w / 64)) (w % 64)
    by_cases y : w / 64 = u / 64
    · rw [if_pos y, inm_or, inm_pow, ← y, ← a3 w hw]
      constructor
      · rintro (z | z)
        · exact Or.inl z
        · exact Or.inr (by rw [z])
      · rintro (z | z)
        · exact Or.inl z
        · exact Or.inr (by omega)
    · rw [if_neg y, ← a3 w hw]
      constructor
      · rintro (z | z)
        · exact z
        · exact absurd (by rw [z]) y
      · exact Or.inl
theorem bo_has {d n u a : Nat} {h : PH} {Q : PQ} {S : Nat → Prop} (hs : h_sh h a = some (4, 10)) (hS : BSt h a n S) (hn : n < 5) (hu : u < 128) (k1 : S u → Q (some (.int 1)) h) (k0 : ¬ S u → Q (some (.int 0)) h) : wpm (d + 1) 4 [.ref a, .int (nI n), .int (nI u)] h Q := by
  refine wpm_in P_Bo_has rfl (by decide) (by show ¬ 3 < 3; decide) ?_
  obtain ⟨A, a1, a2, a3⟩ := hS
  obtain ⟨e1, e2⟩ := dv64 u hu
  have ei : (2 : Int32) * nI n + nI u / (64 : Int32) = nI (2 * n + u / 64) := by rw [e1, show (2 : Int32) = nI 2 from rfl, nI_mulN, nI_add]
  have bit : (lg_cmp ((((h_l h a (((2 : Int32) * nI n) + (nI u / (64 : Int32))).toNatClampNeg).toUInt64 >>> ((nI u - nI u / (64 : Int32) * (64 : Int32)).toInt64.toUInt64 &&& Int64.toUInt64 63)).toInt64) &&& (1 : Int64)) (1 : Int64)) = 0 ↔ S u := by
    rw [ei, e2, nI_clamp (show 2 * n + u / 64 < 2 ^ 31 by omega), a2 _ (by omega), l_ushr64 (a1 _) (by omega), show (1 : Int64) = lN 1 from rfl, l_andN (Nat.lt_of_le_of_lt (Nat.div_le_self _ _) (a1 _)) (by decide), lg_cmp0, show (1 : Nat) = 2 ^ 1 - 1 from rfl, Nat.and_two_pow_sub_one_eq_mod, lN_inj64 (Nat.lt_of_lt_of_le (Nat.mod_lt _ (by decide)) (by decide)) (by decide), a3 u hu]
  refine B_Bo_has_0 hs (by rw [ei]; exact vp_in_nI (by omega) (by omega)) (fun z => B_Bo_has_26 (B_Bo_has_27 (by decide) (k0 (fun w => z (bit.mpr w))))) (fun z => B_Bo_has_22 (B_Bo_has_27 (by decide) (k1 (bit.mp z))))
theorem bo_isEmpty {d n a : Nat} {h : PH} {Q : PQ} {S : Nat → Prop} (hs : h_sh h a = some (4, 10)) (hS : BSt h a n S) (hn : n < 5) (k1 : (∀ u, u < 128 → ¬ S u) → Q (some (.int 1)) h) (k0 : (∃ u, u < 128 ∧ S u) → Q (some (.int 0)) h) : wpm (d + 1) 5 [.ref a, .int (nI n)] h Q := by
  refine wpm_in P_Bo_isEmpty rfl (by decide) (by show ¬ 2 < 2; decide) ?_
  obtain ⟨A, a1, a2, a3⟩ := hS
  have ei : (2 : Int32) * nI n = nI (2 * n + 0) := by rw [show (2 : Int32) = nI 2 from rfl, nI_mulN]; rfl
  have ei1 : (2 : Int32) * nI n + (1 : Int32) = nI (2 * n + 1) := by rw [ei, show (1 : Int32) = nI 1 from rfl, nI_add]
  have bit : (lg_cmp ((h_l h a ((2 : Int32) * nI n).toNatClampNeg) ||| (h_l h a (((2 : Int32) * nI n) + (1 : Int32)).toNatClampNeg)) (0 : Int64)) = 0 ↔ A 0 ||| A 1 = 0 := by
    rw [ei1, ei, nI_clamp (show 2 * n + 0 < 2 ^ 31 by omega), nI_clamp (show 2 * n + 1 < 2 ^ 31 by omega), a2 0 (by omega), a2 1 (by omega), lN_orN (a1 _) (a1 _), lg_cmp0, show (0 : Int64) = lN 0 from rfl, lN_inj64 (Nat.or_lt_two_pow (a1 _) (a1 _)) (by decide)]
  have em : A 0 ||| A 1 = 0 ↔ ∀ u, u < 128 → ¬ S u := by
    constructor
    · intro e u hu hS
      rw [a3 u hu] at hS
      have h0 : inm (A 0 ||| A 1) (u % 64) := by
        rw [inm_or]
        rcases (show u / 64 = 0 ∨ u / 64 = 1 by omega) with z | z <;> rw [z] at hS
        · exact Or.inl hS
        · exact Or.inr hS
      rw [e] at h0
      exact inm_0 h0
    · intro hn
      refine inm_ext (fun k => ⟨fun z => ?_, fun z => absurd z inm_0⟩)
      rw [inm_or] at z
      exfalso
      rcases z with z | z
      · have k64 : k < 64 := inm_lt (a1 0) z
        refine hn k (by omega) ((a3 k (by omega)).mpr ?_)
        rw [show k / 64 = 0 by omega, show k % 64 = k by omega]
        exact z
      · have k64 : k < 64 := inm_lt (a1 1) z
        refine hn (64 + k) (by omega) ((a3 (64 + k) (by omega)).mpr ?_)
        rw [show (64 + k) / 64 = 1 by omega, show (64 + k) % 64 = k by omega]
        exact z
  refine B_Bo_isEmpty_0 hs (by rw [ei]; exact vp_in_nI (by omega) (by omega)) (by rw [ei1]; exact vp_in_nI (by omega) (by omega)) (fun z => B_Bo_isEmpty_22 (B_Bo_isEmpty_23 (by decide) (k0 ?_))) (fun z => B_Bo_isEmpty_18 (B_Bo_isEmpty_23 (by decide) (k1 (em.mp (bit.mp z)))))
  refine Classical.byContradiction (fun w => z (bit.mpr (em.mpr (fun u hu hS => w ⟨u, hu, hS⟩))))
def Wb2 (b n x k : Nat) : Prop := (x = b + 1 ∨ x = b + 2) ∧ k / 2 = n
theorem bo_clear {d n b la cap : Nat} {h : PH} {Q : PQ} (hB : BoS h b la cap) (hn : n < 5) (k : ∀ h', BSt h' (b + 1) n (fun _ => False) → BSt h' (b + 2) n (fun _ => False) → Fr (Wb2 b n) h h' → Q none h') : wpm (d + 1) 2 [.ref b, .int (nI n)] h Q := by
  refine wpm_in P_Bo_clear rfl (by decide) (by show ¬ 2 < 2; decide) ?_
  obtain ⟨s0, s1, s2, _⟩ := hB
  have ei : (2 : Int32) * nI n = nI (2 * n) := by rw [show (2 : Int32) = nI 2 from rfl, nI_mulN]
  have ei1 : nI (2 * n) + (1 : Int32) = nI (2 * n + 1) := by rw [show (1 : Int32) = nI 1 from rfl, nI_add]
  have v0 : vp_in ((2 : Int32) * nI n) 10 := by rw [ei]; exact vp_in_nI (by omega) (by omega)
  have v1 : vp_in ((2 : Int32) * nI n + (1 : Int32)) 10 := by rw [ei, ei1]; exact vp_in_nI (by omega) (by omega)
  refine B_Bo_clear_0 s0 s1.1 s1.2 v0 v1 s2.1 s2.2 v0 v1 ?_
  rw [ei, ei1, nI_clamp (show 2 * n < 2 ^ 31 by omega), nI_clamp (show 2 * n + 1 < 2 ^ 31 by omega)]
  have F1 : Fr (Wb2 b n) h (w_l h (b + 1) (2 * n) 0) := Fr.wl _ _ ⟨Or.inl rfl, by omega⟩
  have F2 : Fr (Wb2 b n) h (w_l (w_l h (b + 1) (2 * n) 0) (b + 1) (2 * n + 1) 0) := F1.tr (Fr.wl _ _ ⟨Or.inl rfl, by omega⟩)
  have F3 : Fr (Wb2 b n) h (w_l (w_l (w_l h (b + 1) (2 * n) 0) (b + 1) (2 * n + 1) 0) (b + 2) (2 * n) 0) := F2.tr (Fr.wl _ _ ⟨Or.inr rfl, by omega⟩)
  have fls : ∀ u, u < 128 → (False ↔ inm 0 (u % 64)) := fun u _ => ⟨fun z => z.elim, fun z => inm_0 z⟩
  refine k _ ⟨fun _ => 0, fun _ => (by decide : (0 : Nat) < 2 ^ 64), fun i hi => ?_, fls⟩ ⟨fun _ => 0, fun _ => (by decide : (0 : Nat) < 2 ^ 64), fun i hi => ?_, fls⟩ (F3.tr (Fr.wl _ _ ⟨Or.inr rfl, by omega⟩))
  · rcases (show i = 0 ∨ i = 1 by omega) with z | z <;> subst z
    · rw [h_l_wl, if_neg (by omega), h_l_wl, if_neg (by omega), h_l_wl, if_neg (by omega), h_l_wl, if_pos ⟨rfl, rfl⟩]
      rfl
    · rw [h_l_wl, if_neg (by omega), h_l_wl, if_neg (by omega), h_l_wl, if_pos ⟨rfl, rfl⟩]
      rfl
  · rcases (show i = 0 ∨ i = 1 by omega) with z | z <;> subst z
    · rw [h_l_wl, if_neg (by omega), h_l_wl, if_pos ⟨rfl, rfl⟩]
      rfl
    · rw [h_l_wl, if_pos ⟨rfl, rfl⟩]
      rfl
