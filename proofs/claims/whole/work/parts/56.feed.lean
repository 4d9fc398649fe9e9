/-! feed and end, on both sides -/
def feedT (tp : List Int32) (a b c d e : Int32) : List Int32 := if tp.length + 20 ≤ 600 then tp ++ b4 a ++ b4 b ++ b4 c ++ b4 d ++ b4 e else tp
def feedR (tp : List Int32) : Int32 := if tp.length + 20 ≤ 600 then nI (tp.length + 20) else -1
theorem add20 {n : Nat} (hn : n ≤ 600) : nI n + (20 : Int32) ≤ (600 : Int32) ↔ n + 20 ≤ 600 := by
  rw [show (20 : Int32) = nI 20 from rfl, nI_add, show (600 : Int32) = nI 600 from rfl, nI_leI (by omega) (by omega)]
theorem b4_len (tp : List Int32) (a : Int32) : (tp ++ b4 a).length = tp.length + 4 := by simp [b4]
theorem ow_feed {d0 : Nat} {h : PH} {Q : PQ} {a b c d e : Int32} {tp : List Int32} (hO : OwS h) (ht : CTp h tp) (k : ∀ h', CTp h' (feedT tp a b c d e) → Fr Wct h h' → Q (some (.int (feedR tp))) h') : wpm (d0 + 2) 118 [.ref 0, .int a, .int b, .int c, .int d, .int e] h Q := by
  refine wpm_in P_Ow_feed rfl (by decide) (by show ¬ 6 < 6; decide) ?_
  refine B_Ow_feed_0 hO.1 (fun q => ?_) (fun q => ?_)
  · rw [ht.1, add20 ht.2.1] at q
    unfold feedT feedR at k
    rw [if_pos q, if_pos q] at k
    refine B_Ow_feed_15 hO.1 ?_
    refine ow_put hO ht (by omega) (fun h1 c1 f1 => ?_)
    have o1 := f1.ow hO
    refine B_Ow_feed_20 o1.1 ?_
    refine ow_put o1 c1 (by rw [b4_len]; omega) (fun h2 c2 f2 => ?_)
    have o2 := f2.ow o1
    refine B_Ow_feed_25 o2.1 ?_
    refine ow_put o2 c2 (by rw [b4_len, b4_len]; omega) (fun h3 c3 f3 => ?_)
    have o3 := f3.ow o2
    refine B_Ow_feed_30 o3.1 ?_
    refine ow_put o3 c3 (by rw [b4_len, b4_len, b4_len]; omega) (fun h4 c4 f4 => ?_)
    have o4 := f4.ow o3
    refine B_Ow_feed_36 o4.1 ?_
    refine ow_put o4 c4 (by rw [b4_len, b4_len, b4_len, b4_len]; omega) (fun h5 c5 f5 => ?_)
    have o5 := f5.ow o4
    refine B_Ow_feed_42 o5.1 ?_
    rw [c5.1, b4_len, b4_len, b4_len, b4_len, b4_len]
    exact k h5 c5 ((((f1.tr f2).tr f3).tr f4).tr f5)
  · rw [ht.1, add20 ht.2.1] at q
    unfold feedT feedR at k
    rw [if_neg q, if_neg q] at k
    exact B_Ow_feed_13 (k h ht (Fr.rf _ h))
theorem MTp.fr {h h' : PH} {W : Nat → Nat → Prop} {tp : List Int32} (ht : MTp h tp) (f : Fr W h h') (w1 : ¬ W 17 12) (w2 : ∀ k, ¬ W 21 k) : MTp h' tp := ⟨(f.i 17 12 w1).trans ht.1, ht.2.1, fun k v hv => (f.i 21 k (w2 k)).trans (ht.2.2 k v hv)⟩
theorem CTp.fr {h h' : PH} {W : Nat → Nat → Prop} {tp : List Int32} (ht : CTp h tp) (f : Fr W h h') (w1 : ¬ W 0 1) (w2 : ∀ k, ¬ W 1 k) : CTp h' tp := ⟨(f.i 0 1 w1).trans ht.1, ht.2.1, fun k v hv => (f.i 1 k (w2 k)).trans (ht.2.2 k v hv)⟩
/-- the model's 'thrown', which every call of it sets to 0 -/
def Wth (c k : Nat) : Prop := c = 17 ∧ k = 0
theorem th_fr (h : PH) : Fr Wth h (w_i h 17 0 0) := Fr.wi h _ ⟨rfl, rfl⟩
theorem md_feed {d0 : Nat} {h : PH} {Q : PQ} {a b c d e : Int32} {tp : List Int32} (hM : MdS h) (ht : MTp h tp) (k : ∀ h', MTp h' (feedT tp a b c d e) → Fr Wmt h h' → Q (some (.int (feedR tp))) h') : wpm (d0 + 2) 178 [.ref 17, .int a, .int b, .int c, .int d, .int e] h Q := by
  refine wpm_in P_Md_feed rfl (by decide) (by show ¬ 6 < 6; decide) ?_
  have f0 : Fr Wmt h (w_i h 17 0 0) := (th_fr h).up (fun c k q => Or.inr (Or.inr q))
  have e0 : h_i (w_i h 17 0 0) 17 12 = nI tp.length := by rw [wi_ne _ _ (by omega)]; exact ht.1
  have t0 : MTp (w_i h 17 0 0) tp := ht.fr (th_fr h) (by unfold Wth; omega) (fun k => by unfold Wth; omega)
  have o0 := f0.md hM
  refine B_Md_feed_0 hM.1 (fun q => ?_) (fun q => ?_)
  · rw [e0, add20 ht.2.1] at q
    unfold feedT feedR at k
    rw [if_pos q, if_pos q] at k
    generalize w_i h 17 0 0 = h0 at f0 t0 o0 ⊢
    refine B_Md_feed_20 o0.1 ?_
    refine md_four o0 t0 (by omega) (fun h1 c1 f1 => ?_)
    have o1 := f1.md o0
    refine B_Md_feed_25 o1.1 ?_
    refine md_four o1 c1 (by rw [b4_len]; omega) (fun h2 c2 f2 => ?_)
    have o2 := f2.md o1
    refine B_Md_feed_30 o2.1 ?_
    refine md_four o2 c2 (by rw [b4_len, b4_len]; omega) (fun h3 c3 f3 => ?_)
    have o3 := f3.md o2
    refine B_Md_feed_35 o3.1 ?_
    refine md_four o3 c3 (by rw [b4_len, b4_len, b4_len]; omega) (fun h4 c4 f4 => ?_)
    have o4 := f4.md o3
    refine B_Md_feed_41 o4.1 ?_
    refine md_four o4 c4 (by rw [b4_len, b4_len, b4_len, b4_len]; omega) (fun h5 c5 f5 => ?_)
    have o5 := f5.md o4
    refine B_Md_feed_47 o5.1 ?_
    rw [c5.1, b4_len, b4_len, b4_len, b4_len, b4_len]
    exact k h5 c5 (f0.tr ((((f1.tr f2).tr f3).tr f4).tr f5))
  · rw [e0, add20 ht.2.1] at q
    unfold feedT feedR at k
    rw [if_neg q, if_neg q] at k
    exact B_Md_feed_18 (k _ t0 f0)
/-- end -/
def endT (tp : List Int32) (n : Int32) : List Int32 := if n < 0 ∨ nI tp.length < n then tp else tp.take n.toNatClampNeg
def endR (tp : List Int32) (n : Int32) : Int32 := if n < 0 ∨ nI tp.length < n then -1 else n
theorem i32_not_le {x y : Int32} : ¬ x ≤ y ↔ y < x := Int32.not_le
theorem take_of {tp : List Int32} {n : Int32} (h : ¬ (n < 0 ∨ nI tp.length < n)) (hl : tp.length ≤ 600) : ∃ m, m ≤ tp.length ∧ n = nI m := by
  obtain ⟨m, hm, rfl⟩ := nI_of (x := n) (fun q => h (Or.inl q))
  refine ⟨m, ?_, rfl⟩
  have h2 : ¬ nI tp.length < nI m := fun q => h (Or.inr q)
  rw [nI_ltI (by omega) hm] at h2
  omega
theorem ow_end {d0 : Nat} {h : PH} {Q : PQ} {n : Int32} {tp : List Int32} (hO : OwS h) (ht : CTp h tp) (k : ∀ h', CTp h' (endT tp n) → Fr Wct h h' → Q (some (.int (endR tp n))) h') : wpm (d0 + 1) 119 [.ref 0, .int n] h Q := by
  refine wpm_in P_Ow_end rfl (by decide) (by show ¬ 2 < 2; decide) ?_
  unfold endT endR at k
  refine B_Ow_end_0 (fun q => ?_) (fun q => ?_)
  · rw [if_pos (Or.inl q), if_pos (Or.inl q)] at k
    exact B_Ow_end_12 (k h ht (Fr.rf _ h))
  · refine B_Ow_end_4 hO.1 (fun z => ?_) (fun z => ?_)
    · have hc : ¬ (n < 0 ∨ nI tp.length < n) := by
        rw [ht.1] at z
        exact fun w => w.elim q (fun w => absurd z (i32_not_le.mpr w))
      rw [if_neg hc, if_neg hc] at k
      obtain ⟨m, hm, rfl⟩ := take_of hc ht.2.1
      rw [nI_clamp (by have := ht.2.1; omega)] at k
      refine B_Ow_end_14 hO.1 (k _ ⟨?_, ?_, fun j v hj => ?_⟩ (Fr.wi h _ (Or.inr ⟨rfl, rfl⟩)))
      · rw [wi_eq, List.length_take, Nat.min_eq_left hm]
      · have := ht.2.1
        rw [List.length_take]
        omega
      · rw [wi_ne _ _ (by omega)]
        rw [List.getElem?_take] at hj
        split at hj
        · exact ht.2.2 j v hj
        · cases hj
    · have hc : n < 0 ∨ nI tp.length < n := by
        rw [ht.1] at z
        exact Or.inr (i32_not_le.mp z)
      rw [if_pos hc, if_pos hc] at k
      exact B_Ow_end_12 (k h ht (Fr.rf _ h))
/-- the model's 'in': between two numbers -/
theorem md_in {d0 : Nat} {h : PH} {Q : PQ} {v lo hi : Int32} (k : Q (some (.int (if v < lo ∨ hi < v then 0 else 1))) h) : wpm (d0 + 1) 170 [.int v, .int lo, .int hi] h Q := by
  refine wpm_in P_Md_in rfl (by decide) (by show ¬ 3 < 3; decide) ?_
  refine B_Md_in_0 (fun q => ?_) (fun q => ?_)
  · rw [if_pos (Or.inl q)] at k
    exact B_Md_in_14 (B_Md_in_15 (by decide) k)
  · refine B_Md_in_5 (fun z => ?_) (fun z => ?_)
    · rw [if_pos (Or.inr z)] at k
      exact B_Md_in_14 (B_Md_in_15 (by decide) k)
    · rw [if_neg (fun w => w.elim q z)] at k
      exact B_Md_in_10 (B_Md_in_15 (by decide) k)
theorem md_end {d0 : Nat} {h : PH} {Q : PQ} {n : Int32} {tp : List Int32} (hM : MdS h) (ht : MTp h tp) (k : ∀ h', MTp h' (endT tp n) → Fr Wmt h h' → Q (some (.int (endR tp n))) h') : wpm (d0 + 2) 179 [.ref 17, .int n] h Q := by
  refine wpm_in P_Md_end rfl (by decide) (by show ¬ 2 < 2; decide) ?_
  have f0 : Fr Wmt h (w_i h 17 0 0) := (th_fr h).up (fun c k q => Or.inr (Or.inr q))
  have e0 : h_i (w_i h 17 0 0) 17 12 = nI tp.length := by rw [wi_ne _ _ (by omega)]; exact ht.1
  have t0 : MTp (w_i h 17 0 0) tp := ht.fr (th_fr h) (by unfold Wth; omega) (fun k => by unfold Wth; omega)
  have o0 := f0.md hM
  unfold endT endR at k
  refine B_Md_end_0 hM.1 ?_
  refine md_in ?_
  rw [e0]
  generalize w_i h 17 0 0 = h0 at f0 t0 o0 ⊢
  by_cases hc : n < 0 ∨ nI tp.length < n
  · rw [if_pos hc, if_pos hc] at k
    rw [if_pos hc]
    exact B_Md_end_14 (fun q => absurd rfl q) (fun _ => B_Md_end_17 (k h0 t0 f0))
  · rw [if_neg hc, if_neg hc] at k
    rw [if_neg hc]
    obtain ⟨m, hm, rfl⟩ := take_of hc ht.2.1
    rw [nI_clamp (by have := ht.2.1; omega)] at k
    refine B_Md_end_14 (fun _ => ?_) (fun q => absurd q (by decide))
    refine B_Md_end_19 o0.1 (k _ ⟨?_, ?_, fun j v hj => ?_⟩ (f0.tr (Fr.wi h0 _ (Or.inr (Or.inl ⟨rfl, rfl⟩)))))
    · rw [wi_eq, List.length_take, Nat.min_eq_left hm]
    · have := ht.2.1
      rw [List.length_take]
      omega
    · rw [wi_ne _ _ (by omega)]
      rw [List.getElem?_take] at hj
      split at hj
      · exact t0.2.2 j v hj
      · cases hj
