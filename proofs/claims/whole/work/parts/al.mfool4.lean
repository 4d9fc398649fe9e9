/-! fool on the reference's side: the answer -/
def Wfl (c k : Nat) : Prop := Wpt c k ∨ Wlc c k ∨ Wfb c k ∨ Wmd c k
theorem md_fool {d : Nat} {h : PH} {Q : PQ} {gs : List (List Nat)} {m : Nat} {w : List Nat} {x : Int32} (hM : MdS h) (hg : MGr h gs m) (hu : unlk gs) (hz : MTz h gs m) (hw : MWd h w) (k1 : (x < 0 ∨ (2 : Int32) < x) → Q (some (.int (-2))) (w_i h 17 0 0)) (k2 : ∀ kd o h', kd < 3 → x = nI kd → lst (FW gs m kd) o → MWd h' (o.getD w) → MTl h' gs m → Fr Wfl h h' → Q (some (.int (foI o))) h') : wpm (d + 6) 241 [.ref 17, .int x] h Q := by
  refine wpm_in P_Md_fool rfl (by decide) (by show ¬ 4 < 2; decide) (B_Md_fool_0 hM.1 (md_in ?_))
  have ho := hg.1
  have h14 := ho.1
  by_cases q : x < 0 ∨ (2 : Int32) < x
  · rw [if_pos q]
    exact B_Md_fool_11 (fun z => absurd rfl z) (fun _ => B_Md_fool_14 (k1 q))
  · rw [if_neg q]
    obtain ⟨kd, hk, rfl⟩ := kd_of q
    refine B_Md_fool_11 (fun _ => B_Md_fool_17 ((th0 h).md hM).1 (md_layTails ((th0 h).md hM) (th0_mg hg) hu (th0_mt ho hz) (fun h1 T1 f1 => ?_))) (fun z => absurd z (by decide))
    have F1 := pt_up f1
    have hM1 := F1.md hM
    have hg1 : MGr h1 gs m := MGr.fr F1 (fun c k z y => by unfold Wpt Wlt at z; omega) hg
    refine B_Md_fool_21 hM1.1 (md_layCover hM1 hg1 T1 (fun h2 C2 f2 => ?_))
    have hM2 := f2.md hM1
    have hg2 := MGr.fr f2 wlc_g hg1
    have T2 := T1.fr f2 wlc_t ho
    have F2' : Fr (fun c k => Wpt c k ∨ Wlc c k ∨ Wfb c k) h h2 := (F1.up (fun c k z => Or.inl z)).tr (f2.up (fun c k z => Or.inr (Or.inl z)))
    have F2 : Fr Wfl h h2 := F2'.up (fun c k z => by unfold Wfl; rcases z with z | z | z <;> simp only [z, true_or, or_true])
    refine B_Md_fool_25 hM2.1 ?_
    have f3 : Fr Wfb h2 (w_i h2 17 47 (-1)) := Fr.wi h2 _ (Or.inr (Or.inr ⟨rfl, rfl⟩))
    have L3 : LeO (w_i h2 17 47 (-1)) none := ⟨wi_eq _ _ _ _, fun b hb => by cases hb⟩
    generalize w_i h2 17 47 (-1) = h3 at f3 L3
    have mg : ∀ {g : PH}, Fr Wfb h2 g → MGr g gs m := fun hf => MGr.fr hf wfb_g hg2
    have mt : ∀ {g : PH}, Fr Wfb h2 g → MTl g gs m := fun hf => T2.fr hf wfb_t ho
    have mc : ∀ {g : PH}, Fr Wfb h2 g → MCv g gs m := fun hf => C2.fr hf (fun c k z => by unfold Wfb Wtr at z; omega)
    have inner : ∀ (a : Nat), a < gs.length → ∀ (e b : Nat) (g : PH) (o : Option (List Nat)) (S : List Nat → Prop), gs.length - b = e → b ≤ gs.length → Fr Wfb h2 g → LeO g o → lst S o → (∀ g o x3 S', Fr Wfb h2 g → LeO g o → lst S' o → (∀ w, S' w ↔ (S w ∨ ∃ b', b ≤ b' ∧ b' < gs.length ∧ fwP gs m kd a b' w)) → wpx (d + 5) P_Md_fool 90 [.ref 17, .int (nI kd), .int (nI a), .int x3] [] g Q) → wpx (d + 5) P_Md_fool 42 [.ref 17, .int (nI kd), .int (nI a), .int (nI b)] [] g Q := by
      intro a ha e
      induction e with
      | zero =>
        intro b g o S he hb hf hB hS kk
        refine B_Md_fool_42 (hf.md hM2).1 (fun _ => kk g o _ S hf hB hS (fun w => ⟨Or.inl, fun z => z.elim id (fun ⟨b', z1, z2, _⟩ => by omega)⟩)) (fun q => ?_)
        rw [(mg hf).2.1, nI_leI (by omega) (by omega)] at q
        omega
      | succ e ih =>
        intro b g o S he hb hf hB hS kk
        have hMg := hf.md hM2
        have hb' : b < gs.length := by omega
        have next : ∀ (g : PH) (o : Option (List Nat)) (S' : List Nat → Prop), Fr Wfb h2 g → LeO g o → lst S' o → (∀ w, S' w ↔ (S w ∨ fwP gs m kd a b w)) → wpx (d + 5) P_Md_fool 84 [.ref 17, .int (nI kd), .int (nI a), .int (nI b)] [] g Q := fun g o S' f' b' s' w' => by
          refine B_Md_fool_84 ?_
          rw [nI_1]
          refine ih (b + 1) g o S' (by omega) (by omega) f' b' s' (fun g o x4 S'' f'' b'' s'' w'' => kk g o x4 S'' f'' b'' s'' (fun w => (w'' w).trans ?_))
          rw [w' w]
          constructor
          · rintro ((z | z) | ⟨q, z1, z2, z3⟩)
            · exact Or.inl z
            · exact Or.inr ⟨b, Nat.le_refl _, hb', z⟩
            · exact Or.inr ⟨q, by omega, z2, z3⟩
          · rintro (z | ⟨q, z1, z2, z3⟩)
            · exact Or.inl (Or.inl z)
            · by_cases v : q = b
              · rw [v] at z3
                exact Or.inl (Or.inr z3)
              · exact Or.inr ⟨q, by omega, z2, z3⟩
        have no : ¬ abC m a b → wpx (d + 5) P_Md_fool 84 [.ref 17, .int (nI kd), .int (nI a), .int (nI b)] [] g Q := fun hn => next g o S hf hB hS (fun w => ⟨Or.inl, fun z => z.elim id (fun y => absurd y.1 hn)⟩)
        refine B_Md_fool_42 hMg.1 (fun q => ?_) (fun _ => B_Md_fool_50 (fun q => no (fun z => z.1 ((nI_eq (by omega) (by omega)).mp q))) (fun q0 => B_Md_fool_55 hMg.1 ?_))
        · rw [(mg hf).2.1, nI_leI (by omega) (by omega)] at q
          omega
        rw [(mg hf).2.2.1]
        refine md_isOf ho.m31 (by omega) (fun qa => B_Md_fool_63 (fun z => absurd z (by decide)) (fun _ => B_Md_fool_66 hMg.1 ?_)) (fun qa => B_Md_fool_63 (fun _ => no (fun y => qa y.2.1)) (fun z => absurd rfl z))
        rw [(mg hf).2.2.1]
        refine md_isOf ho.m31 (by omega) (fun qb => B_Md_fool_74 (fun z => absurd z (by decide)) (fun _ => B_Md_fool_77 hMg.1 ?_)) (fun qb => B_Md_fool_74 (fun _ => no (fun y => qb y.2.2)) (fun z => absurd rfl z))
        exact md_foolsBy hk hMg (mg hf) hu (mt hf) (mc hf) ha hb' ⟨fun y => q0 (by rw [y]), qa, qb⟩ hS hB (fun g' o' s' l' f' => next g' o' _ (hf.tr f') l' s' (fun w => Iff.rfl))
    have outer : ∀ (e a : Nat) (g : PH) (o : Option (List Nat)) (S : List Nat → Prop) (v3 : Value), gs.length - a = e → a ≤ gs.length → Fr Wfb h2 g → LeO g o → lst S o → (∀ w, S w ↔ ∃ a' b', a' < a ∧ b' < gs.length ∧ fwP gs m kd a' b' w) → wpx (d + 5) P_Md_fool 32 [.ref 17, .int (nI kd), .int (nI a), v3] [] g Q := by
      intro e
      induction e with
      | zero =>
        intro a g o S v3 he ha hf hB hS hw'
        have ea : a = gs.length := by omega
        subst ea
        have hMg := hf.md hM2
        have Fg : Fr Wfl h g := F2.tr (hf.up (fun c k z => Or.inr (Or.inr (Or.inl z))))
        have sg : lst (FW gs m kd) o := lst_up hS (fun w => (hw' w).trans ⟨fun ⟨a', b', z1, z2, z3⟩ => ⟨a', b', z1, z2, z3⟩, fun ⟨a', b', z1, z2, z3⟩ => ⟨a', b', z1, z2, z3⟩⟩)
        refine B_Md_fool_32 hMg.1 (fun _ => B_Md_fool_96 hMg.1 (fun z => ?_) (fun z => B_Md_fool_103 ?_)) (fun q => ?_)
        · cases o with
          | none =>
            have u : h_i g 17 47 = -1 := hB.1
            rw [u] at z
            exact absurd z (by decide)
          | some b =>
            obtain ⟨⟨lb, sb, cb⟩, b13⟩ := hB
            have b13' := b13 b rfl
            have okb : okw b := ⟨by omega, lb⟩
            refine B_Md_fool_105 hMg.1 (mr_least hMg) ?_
            rw [sb]
            refine md_takesWord (f := 0) hMg (ms_least hMg) (by decide) (by decide) (by omega) okb cb (fun g' w' f' => B_Md_fool_118 (f'.md hMg).1 ?_)
            rw [w'.2.1]
            exact k2 kd (some b) g' hk rfl sg w' ((mt hf).fr f' (fun c k z y => by unfold Wmd at z; unfold Wlt at y; omega) ho) (Fg.tr (f'.up (fun c k z => Or.inr (Or.inr (Or.inr z)))))
        · cases o with
          | none =>
            have Fg' : Fr (fun c k => Wpt c k ∨ Wlc c k ∨ Wfb c k) h g := F2'.tr (hf.up (fun c k z => Or.inr (Or.inr z)))
            have hwg : MWd g w := ⟨hw.1, (Fg'.i _ _ (by unfold Wpt Wlt Wlc Wfb Wtr; omega)).trans hw.2.1, fun k x hx => (Fg'.i _ _ (by unfold Wpt Wlt Wlc Wfb Wtr; omega)).trans (hw.2.2 k x hx)⟩
            exact k2 kd none g hk rfl sg hwg (mt hf) Fg
          | some b =>
            rw [hB.1.2.1] at z
            exact absurd (Int32.not_lt.mp (nI_pos (by have := hB.2 b rfl; omega))) z
        · rw [(mg hf).2.1, nI_leI (by omega) (by omega)] at q
          omega
      | succ e ih =>
        intro a g o S v3 he ha hf hB hS hw'
        refine B_Md_fool_32 (hf.md hM2).1 (fun q => ?_) (fun _ => B_Md_fool_40 (inner a (by omega) gs.length 0 g o S rfl (Nat.zero_le _) hf hB hS (fun g' o' x4 S' f' b' s' w' => B_Md_fool_90 ?_)))
        · rw [(mg hf).2.1, nI_leI (by omega) (by omega)] at q
          omega
        · rw [nI_1]
          refine ih (a + 1) g' o' S' _ (by omega) (by omega) f' b' s' (fun w => (w' w).trans ?_)
          rw [hw' w]
          constructor
          · rintro (⟨a', b', z1, z2, z3⟩ | ⟨b', z1, z2, z3⟩)
            · exact ⟨a', b', by omega, z2, z3⟩
            · exact ⟨a, b', by omega, z2, z3⟩
          · rintro ⟨a', b', z1, z2, z3⟩
            by_cases v : a' = a
            · rw [v] at z3
              exact Or.inr ⟨b', Nat.zero_le _, z2, z3⟩
            · exact Or.inl ⟨a', b', by omega, z2, z3⟩
    exact outer gs.length 0 h3 none (fun _ => False) _ rfl (Nat.zero_le _) f3 L3 (fun w z => z) (fun w => ⟨fun z => absurd z id, fun ⟨a', b', z1, _⟩ => by omega⟩)
