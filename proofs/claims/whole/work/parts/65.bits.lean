/-! counting bits -/
/-- how many of the lowest n bits are set -/
def pop (m : Nat) : Nat → Nat
  | 0 => 0
  | n + 1 => pop m n + m / 2 ^ n % 2
theorem nI_andN {a b : Nat} (ha : a < 2 ^ 32) (hb : b < 2 ^ 32) : nI a &&& nI b = nI (a &&& b) := by
  apply Int32.toBitVec_inj.mp
  apply BitVec.eq_of_toNat_eq
  rw [Int32.toBitVec_and, BitVec.toNat_and]
  unfold nI
  rw [Int32.toBitVec_ofNat', Int32.toBitVec_ofNat', Int32.toBitVec_ofNat', BitVec.toNat_ofNat, BitVec.toNat_ofNat, BitVec.toNat_ofNat, Nat.mod_eq_of_lt ha, Nat.mod_eq_of_lt hb, Nat.mod_eq_of_lt (Nat.lt_of_le_of_lt Nat.and_le_left ha)]
theorem nI_orN {a b : Nat} (ha : a < 2 ^ 32) (hb : b < 2 ^ 32) : nI a ||| nI b = nI (a ||| b) := by
  apply Int32.toBitVec_inj.mp
  apply BitVec.eq_of_toNat_eq
  rw [Int32.toBitVec_or, BitVec.toNat_or]
  unfold nI
  rw [Int32.toBitVec_ofNat', Int32.toBitVec_ofNat', Int32.toBitVec_ofNat', BitVec.toNat_ofNat, BitVec.toNat_ofNat, BitVec.toNat_ofNat, Nat.mod_eq_of_lt ha, Nat.mod_eq_of_lt hb, Nat.mod_eq_of_lt (Nat.or_lt_two_pow ha hb)]
theorem and_split (x y : Nat) : x &&& y = (x % 256 &&& y % 256) + 256 * (x / 256 &&& y / 256) := by
  have h1 : (x &&& y) % 2 ^ 8 = (x % 2 ^ 8) &&& (y % 2 ^ 8) := Nat.and_mod_two_pow
  have h2 : (x &&& y) / 2 ^ 8 = (x / 2 ^ 8) &&& (y / 2 ^ 8) := Nat.and_div_two_pow
  have h3 := Nat.mod_add_div (x &&& y) (2 ^ 8)
  rw [h1, h2] at h3
  exact h3.symm
theorem b85 : ∀ a, a < 128 → (a + 128) &&& 85 = a &&& 85 := by decide +kernel
theorem b51 : ∀ a, a < 64 → ∀ e, e < 4 → (a + 64 * e) &&& 51 = a &&& 51 := by decide +kernel
theorem sp1 (m M : Nat) : m / 2 &&& (85 + 256 * M) = (m % 256 / 2 &&& 85) + 256 * (m / 256 / 2 &&& M) := by
  rw [and_split, show (85 + 256 * M) % 256 = 85 from by omega, show (85 + 256 * M) / 256 = M from by omega, show m / 2 / 256 = m / 256 / 2 from by omega]
  congr 1
  rcases Nat.mod_two_eq_zero_or_one (m / 256) with h | h
  · rw [show m / 2 % 256 = m % 256 / 2 from by omega]
  · rw [show m / 2 % 256 = m % 256 / 2 + 128 from by omega]
    exact b85 _ (by omega)
theorem sp2 (m M : Nat) : m &&& (51 + 256 * M) = (m % 256 &&& 51) + 256 * (m / 256 &&& M) := by
  rw [and_split, show (51 + 256 * M) % 256 = 51 from by omega, show (51 + 256 * M) / 256 = M from by omega]
theorem sp3 (m M : Nat) : m / 4 &&& (51 + 256 * M) = (m % 256 / 4 &&& 51) + 256 * (m / 256 / 4 &&& M) := by
  rw [and_split, show (51 + 256 * M) % 256 = 51 from by omega, show (51 + 256 * M) / 256 = M from by omega, show m / 4 / 256 = m / 256 / 4 from by omega]
  congr 1
  rw [show m / 4 % 256 = m % 256 / 4 + 64 * (m / 256 % 4) from by omega]
  exact b51 _ (by omega) _ (by omega)
theorem sp4 (m M : Nat) : m &&& (15 + 256 * M) = m % 16 + 256 * (m / 256 &&& M) := by
  rw [and_split, show (15 + 256 * M) % 256 = 15 from by omega, show (15 + 256 * M) / 256 = M from by omega]
  congr 1
  have : m % 256 &&& 2 ^ 4 - 1 = m % 256 % 2 ^ 4 := Nat.and_two_pow_sub_one_eq_mod _ _
  rw [show (15 : Nat) = 2 ^ 4 - 1 from rfl, this]
  omega
/-- one byte -/
def bA (a : Nat) : Nat := a - (a / 2 &&& 85)
def bB (a : Nat) : Nat := (bA a &&& 51) + (bA a / 4 &&& 51)
theorem b_byte : ∀ a, a < 256 → (a / 2 &&& 85) ≤ a ∧ bB a % 16 ≤ 4 ∧ bB a / 16 ≤ 4 ∧ bB a % 16 + bB a / 16 = pop a 8 := by decide +kernel
theorem b_four {m a b c e : Nat} (ha : a < 256) (hb : b < 256) (hc : c < 256) (he : e < 256) (hm : m = a + 256 * (b + 256 * (c + 256 * e))) : ∃ r, r = m / 2 &&& 1431655765 ∧ r ≤ m ∧ m - r = bA a + 256 * (bA b + 256 * (bA c + 256 * bA e)) ∧ bA a < 256 ∧ bA b < 256 ∧ bA c < 256 ∧ bA e < 256 := by
  have ea := (b_byte a ha).1
  have eb := (b_byte b hb).1
  have ec := (b_byte c hc).1
  have ee := (b_byte e he).1
  refine ⟨_, rfl, ?_⟩
  have er : m / 2 &&& 1431655765 = (a / 2 &&& 85) + 256 * ((b / 2 &&& 85) + 256 * ((c / 2 &&& 85) + 256 * (e / 2 &&& 85))) := by
    rw [show (1431655765 : Nat) = 85 + 256 * (85 + 256 * (85 + 256 * 85)) from rfl, sp1, sp1, sp1, show m % 256 = a from by omega, show m / 256 % 256 = b from by omega, show m / 256 / 256 % 256 = c from by omega, show m / 256 / 256 / 256 = e from by omega]
  rw [er]
  unfold bA
  omega
theorem b_two {m a b c e : Nat} (ha : bA a < 256) (hb : bA b < 256) (hc : bA c < 256) (he : bA e < 256) (hm : m = bA a + 256 * (bA b + 256 * (bA c + 256 * bA e))) : (m &&& 858993459) + (m / 4 &&& 858993459) = bB a + 256 * (bB b + 256 * (bB c + 256 * bB e)) := by
  rw [show (858993459 : Nat) = 51 + 256 * (51 + 256 * (51 + 256 * 51)) from rfl, sp2, sp2, sp2, sp3, sp3, sp3, show m % 256 = bA a from by omega, show m / 256 % 256 = bA b from by omega, show m / 256 / 256 % 256 = bA c from by omega, show m / 256 / 256 / 256 = bA e from by omega]
  unfold bB
  omega
theorem pop_add (m a : Nat) : ∀ b, pop m (a + b) = pop m a + pop (m / 2 ^ a) b
  | 0 => rfl
  | b + 1 => by
    show pop m (a + b) + m / 2 ^ (a + b) % 2 = pop m a + (pop (m / 2 ^ a) b + m / 2 ^ a / 2 ^ b % 2)
    rw [pop_add m a b, Nat.div_div_eq_div_mul, ← Nat.pow_add, Nat.add_assoc]
theorem pop_8 (m : Nat) : pop (m % 256) 8 = pop m 8 := by
  have e0 : m % 256 / 2 ^ 0 % 2 = m / 2 ^ 0 % 2 := by omega
  have e1 : m % 256 / 2 ^ 1 % 2 = m / 2 ^ 1 % 2 := by omega
  have e2 : m % 256 / 2 ^ 2 % 2 = m / 2 ^ 2 % 2 := by omega
  have e3 : m % 256 / 2 ^ 3 % 2 = m / 2 ^ 3 % 2 := by omega
  have e4 : m % 256 / 2 ^ 4 % 2 = m / 2 ^ 4 % 2 := by omega
  have e5 : m % 256 / 2 ^ 5 % 2 = m / 2 ^ 5 % 2 := by omega
  have e6 : m % 256 / 2 ^ 6 % 2 = m / 2 ^ 6 % 2 := by omega
  have e7 : m % 256 / 2 ^ 7 % 2 = m / 2 ^ 7 % 2 := by omega
  unfold pop pop pop pop pop pop pop pop pop
  rw [e0, e1, e2, e3, e4, e5, e6, e7]
theorem pop_byte (m : Nat) : pop m 32 = pop (m % 256) 8 + pop (m / 256 % 256) 8 + pop (m / 65536 % 256) 8 + pop (m / 16777216 % 256) 8 := by
  rw [pop_8, pop_8, pop_8, pop_8]
  have h1 : pop m 32 = pop m 24 + pop (m / 2 ^ 24) 8 := pop_add m 24 8
  have h2 : pop m 24 = pop m 16 + pop (m / 2 ^ 16) 8 := pop_add m 16 8
  have h3 : pop m 16 = pop m 8 + pop (m / 2 ^ 8) 8 := pop_add m 8 8
  rw [h1, h2, h3]
theorem b_last {l0 l1 l2 l3 h0 h1 h2 h3 : Nat} (a0 : l0 ≤ 4) (a1 : l1 ≤ 4) (a2 : l2 ≤ 4) (a3 : l3 ≤ 4) (b0 : h0 ≤ 4) (b1 : h1 ≤ 4) (b2 : h2 ≤ 4) (b3 : h3 ≤ 4) {s : Nat} (hs : s = l0 + 16 * h0 + 256 * (l1 + 16 * h1 + 256 * (l2 + 16 * h2 + 256 * (l3 + 16 * h3)))) : s + s / 16 < 2 ^ 31 ∧ s + s / 16 &&& 252645135 = (l0 + h0) + 256 * ((l1 + h1) + 256 * ((l2 + h2) + 256 * (l3 + h3))) := by
  have hk : s / 16 = h0 + 16 * (l1 + 16 * (h1 + 16 * (l2 + 16 * (h2 + 16 * (l3 + 16 * h3))))) := by omega
  have hq : s + s / 16 = (l0 + h0) + 16 * (h0 + l1) + 256 * ((l1 + h1) + 16 * (h1 + l2) + 256 * ((l2 + h2) + 16 * (h2 + l3) + 256 * ((l3 + h3) + 16 * h3))) := by omega
  generalize s + s / 16 = q at hq ⊢
  have q1 : q / 256 = (l1 + h1) + 16 * (h1 + l2) + 256 * ((l2 + h2) + 16 * (h2 + l3) + 256 * ((l3 + h3) + 16 * h3)) := by omega
  have q2 : q / 256 / 256 = (l2 + h2) + 16 * (h2 + l3) + 256 * ((l3 + h3) + 16 * h3) := by rw [q1]; omega
  have q3 : q / 256 / 256 / 256 = (l3 + h3) + 16 * h3 := by rw [q2]; omega
  refine ⟨by omega, ?_⟩
  rw [show (252645135 : Nat) = 15 + 256 * (15 + 256 * (15 + 256 * (2 ^ 4 - 1))) from rfl, sp4, sp4, sp4, Nat.and_two_pow_sub_one_eq_mod, q3, q2, q1]
  have e0 : q % 16 = l0 + h0 := by omega
  have e1 : (l1 + h1 + 16 * (h1 + l2) + 256 * (l2 + h2 + 16 * (h2 + l3) + 256 * (l3 + h3 + 16 * h3))) % 16 = l1 + h1 := by omega
  have e2 : (l2 + h2 + 16 * (h2 + l3) + 256 * (l3 + h3 + 16 * h3)) % 16 = l2 + h2 := by omega
  have e3 : (l3 + h3 + 16 * h3) % 2 ^ 4 = l3 + h3 := by omega
  rw [e0, e1, e2, e3]
theorem b_sum {p0 p1 p2 p3 t : Nat} (h0 : p0 ≤ 8) (h1 : p1 ≤ 8) (h2 : p2 ≤ 8) (h3 : p3 ≤ 8) (ht : t = p0 + 256 * (p1 + 256 * (p2 + 256 * p3))) : t + t / 256 < 2 ^ 31 ∧ t + t / 256 + (t + t / 256) / 65536 < 2 ^ 31 ∧ (t + t / 256 + (t + t / 256) / 65536) % 2 ^ 6 = p0 + p1 + p2 + p3 := by
  have e1 : t / 256 = p1 + 256 * (p2 + 256 * p3) := by omega
  have e2 : t + t / 256 = (p0 + p1) + 256 * ((p1 + p2) + 256 * ((p2 + p3) + 256 * p3)) := by omega
  generalize t + t / 256 = u at e2 ⊢
  have e3 : u / 65536 = (p2 + p3) + 256 * p3 := by omega
  have e4 : u + u / 65536 = (p0 + p1 + p2 + p3) + 64 * (4 * ((p1 + p2 + p3) + 256 * ((p2 + p3) + 256 * p3))) := by omega
  refine ⟨by omega, by omega, ?_⟩
  rw [e4]
  omega
theorem bc_one {m : Nat} (hm : m < 2 ^ 32) : ∃ r, r = m / 2 &&& 1431655765 ∧ r ≤ m ∧ m - r < 2 ^ 32 ∧ ∃ s, s = ((m - r) &&& 858993459) + ((m - r) / 4 &&& 858993459) ∧ s < 2 ^ 32 ∧ s + s / 16 < 2 ^ 31 ∧ ∃ t, t = s + s / 16 &&& 252645135 ∧ t < 2 ^ 31 ∧ t + t / 256 < 2 ^ 31 ∧ t + t / 256 + (t + t / 256) / 65536 < 2 ^ 31 ∧ (t + t / 256 + (t + t / 256) / 65536) % 2 ^ 6 = pop m 32 := by
  have ha : m % 256 < 256 := by omega
  have hb : m / 256 % 256 < 256 := by omega
  have hc : m / 65536 % 256 < 256 := by omega
  have he : m / 16777216 % 256 < 256 := by omega
  rw [pop_byte]
  have hm4 : m = m % 256 + 256 * (m / 256 % 256 + 256 * (m / 65536 % 256 + 256 * (m / 16777216 % 256))) := by omega
  generalize m % 256 = a at *
  generalize m / 256 % 256 = b at *
  generalize m / 65536 % 256 = c at *
  generalize m / 16777216 % 256 = e at *
  obtain ⟨r, hr, hle, hd, xa, xb, xc, xe⟩ := b_four ha hb hc he hm4
  refine ⟨r, hr, hle, by omega, ?_⟩
  have h2 := b_two xa xb xc xe hd
  obtain ⟨_, la, ga, pa⟩ := b_byte a ha
  obtain ⟨_, lb, gb, pb⟩ := b_byte b hb
  obtain ⟨_, lc, gc, pc⟩ := b_byte c hc
  obtain ⟨_, le, ge, pe⟩ := b_byte e he
  refine ⟨_, rfl, ?_⟩
  rw [h2]
  have hs : bB a + 256 * (bB b + 256 * (bB c + 256 * bB e)) = bB a % 16 + 16 * (bB a / 16) + 256 * (bB b % 16 + 16 * (bB b / 16) + 256 * (bB c % 16 + 16 * (bB c / 16) + 256 * (bB e % 16 + 16 * (bB e / 16)))) := by omega
  generalize bB a + 256 * (bB b + 256 * (bB c + 256 * bB e)) = s at hs ⊢
  generalize bB a % 16 = l0 at *
  generalize bB b % 16 = l1 at *
  generalize bB c % 16 = l2 at *
  generalize bB e % 16 = l3 at *
  generalize bB a / 16 = h0 at *
  generalize bB b / 16 = h1 at *
  generalize bB c / 16 = h2 at *
  generalize bB e / 16 = h3 at *
  obtain ⟨z1, z2⟩ := b_last la lb lc le ga gb gc ge hs
  refine ⟨by omega, z1, _, rfl, ?_⟩
  rw [z2]
  obtain ⟨w1, w2, w3⟩ := b_sum (p0 := l0 + h0) (p1 := l1 + h1) (p2 := l2 + h2) (p3 := l3 + h3) (by omega) (by omega) (by omega) (by omega) rfl
  refine ⟨by omega, w1, w2, ?_⟩
  rw [w3, pa, pb, pc, pe]
theorem ji_bitCount {d m : Nat} {h : PH} {Q : PQ} (hm : m < 2 ^ 32) (k : Q (some (.int (nI (pop m 32)))) h) : wpm (d + 1) 282 [.int (nI m)] h Q := by
  refine wpm_in P_Ji_bitCount rfl (by decide) (by show ¬ 1 < 1; decide) ?_
  refine B_Ji_bitCount_0 ?_
  obtain ⟨r, hr, hle, hd, s, hs, s1, s2, t, ht, t1, t2, t3, t4⟩ := bc_one hm
  rw [pk_ushrN (by omega) (1 : Int32) 1 (by decide), show (1431655765 : Int32) = nI 1431655765 from rfl, nI_andN (by omega) (by decide), show m / 2 ^ 1 = m / 2 from rfl, ← hr, nI_subN hle]
  generalize m - r = g at *
  rw [pk_ushrN hd (2 : Int32) 2 (by decide), show (858993459 : Int32) = nI 858993459 from rfl, nI_andN hd (by decide), nI_andN (by omega) (by decide), nI_add, show g / 2 ^ 2 = g / 4 from rfl, ← hs]
  rw [pk_ushrN s1 (4 : Int32) 4 (by decide), nI_add, show s / 2 ^ 4 = s / 16 from rfl, show (252645135 : Int32) = nI 252645135 from rfl, nI_andN (by omega) (by decide), ← ht]
  rw [pk_ushrN (by omega) (8 : Int32) 8 (by decide), nI_add, show t / 2 ^ 8 = t / 256 from rfl]
  rw [pk_ushrN (by omega) (16 : Int32) 16 (by decide), nI_add, show (t + t / 256) / 2 ^ 16 = (t + t / 256) / 65536 from rfl]
  rw [pk_andN (by omega) 6 (by decide), t4]
  exact k
