/-! sets as bits -/
theorem nN (a : Nat) : Int32.ofInt (a : Int) = nI a := Int32.ofInt_eq_ofNat
theorem tiN {a : Nat} (h : a < 2 ^ 31) : (nI a).toInt = (a : Int) := by
  rw [← nN]
  exact oi_ti ⟨by omega, by omega⟩
theorem nx_or (a b : Nat) : nI a ||| nI b = nI (a ||| b) := by
  apply Int32.toBitVec_inj.1
  show BitVec.ofNat 32 a ||| BitVec.ofNat 32 b = BitVec.ofNat 32 (a ||| b)
  apply BitVec.eq_of_getLsbD_eq
  intro i hi
  simp [hi]
theorem nx_and (a b : Nat) : nI a &&& nI b = nI (a &&& b) := by
  apply Int32.toBitVec_inj.1
  show BitVec.ofNat 32 a &&& BitVec.ofNat 32 b = BitVec.ofNat 32 (a &&& b)
  apply BitVec.eq_of_getLsbD_eq
  intro i hi
  simp [hi]
/-- what is in a and not in b -/
def nd (a b : Nat) : Nat := a ^^^ (a &&& b)
theorem nd_bit (a b i : Nat) : (nd a b).testBit i = (a.testBit i && !b.testBit i) := by
  unfold nd
  rw [Nat.testBit_xor, Nat.testBit_and]
  cases a.testBit i <;> cases b.testBit i <;> rfl
theorem nd_lt {a b n : Nat} (h : a < 2 ^ n) : nd a b < 2 ^ n := by
  apply Nat.lt_pow_two_of_testBit
  intro i hi
  rw [nd_bit, Nat.testBit_lt_two_pow (Nat.lt_of_lt_of_le h (Nat.pow_le_pow_right (by omega) hi))]
  rfl
theorem nx_nd (a b : Nat) : nI a &&& (nI b ^^^ Int32.ofInt (-1)) = nI (nd a b) := by
  apply Int32.toBitVec_inj.1
  show BitVec.ofNat 32 a &&& (BitVec.ofNat 32 b ^^^ BitVec.ofInt 32 (-1)) = BitVec.ofNat 32 (nd a b)
  rw [show BitVec.ofInt 32 (-1) = BitVec.allOnes 32 from by decide]
  apply BitVec.eq_of_getLsbD_eq
  intro i hi
  simp only [BitVec.getLsbD_and, BitVec.getLsbD_xor, BitVec.getLsbD_ofNat, BitVec.getLsbD_allOnes, nd_bit, hi, decide_true, Bool.true_and, Bool.xor_true]
theorem qorN {a b : Nat} (ha : a < 2 ^ 31) (hb : b < 2 ^ 31) : qor a b = ((a ||| b : Nat) : Int) := by
  unfold qor
  rw [nN, nN, nx_or, tiN (Nat.or_lt_two_pow ha hb)]
theorem qandN {a b : Nat} (hb : b < 2 ^ 31) : qand a b = ((a &&& b : Nat) : Int) := by
  unfold qand
  rw [nN, nN, nx_and, tiN (Nat.and_lt_two_pow a hb)]
theorem qnotN {a b : Nat} (ha : a < 2 ^ 31) : qand a (qxor b (-1)) = ((nd a b : Nat) : Int) := by
  unfold qand qxor
  rw [Int32.ofInt_toInt, nN, nN, nx_nd, tiN (nd_lt ha)]
theorem qor0 {a : Nat} (ha : a < 2 ^ 31) : qor a 0 = (a : Int) := by
  have h := qorN (a := a) (b := 0) ha (by omega)
  rw [Nat.or_zero] at h
  exact h
theorem shl1_f : ∀ c : Fin 31, qshl 1 (c.val : Int) = ((2 ^ c.val : Nat) : Int) := by decide +kernel
theorem shl1 {c : Nat} (h : c < 31) : qshl 1 (c : Int) = ((2 ^ c : Nat) : Int) := shl1_f ⟨c, h⟩
theorem p2_lt {c n : Nat} (h : c < n) : 2 ^ c < 2 ^ n := Nat.pow_lt_pow_right (by omega) h
theorem qorP {a c : Nat} (ha : a < 2 ^ 31) (hc : c < 31) : qor a (qshl 1 c) = ((a ||| 2 ^ c : Nat) : Int) := by
  rw [shl1 hc, qorN ha (p2_lt hc)]
theorem qnotP {a c : Nat} (ha : a < 2 ^ 31) (hc : c < 31) : qand a (qxor (qshl 1 c) (-1)) = ((nd a (2 ^ c) : Nat) : Int) := by
  rw [shl1 hc, qnotN ha]
theorem sl32_f : ∀ n : Fin 32, ((nI n.val &&& 31).toBitVec.smod 32).toNat = n.val := by decide +kernel
theorem shrN {a i : Nat} (ha : a < 2 ^ 31) (hi : i < 32) : qshr a i = ((a / 2 ^ i : Nat) : Int) := by
  unfold qshr
  rw [nN, nN, pk_shrN ha _ i (sl32_f ⟨i, hi⟩), tiN (Nat.lt_of_le_of_lt (Nat.div_le_self _ _) ha)]
theorem bitN {a i : Nat} (ha : a < 2 ^ 31) (hi : i < 32) : qand (qshr a i) 1 = if a.testBit i = true then 1 else 0 := by
  have e := qandN (a := a / 2 ^ i) (b := 1) (by omega)
  rw [Nat.and_one_is_mod] at e
  rw [shrN ha hi]
  refine Eq.trans e ?_
  rw [Nat.testBit_eq_decide_div_mod_eq]
  have h2 : a / 2 ^ i % 2 < 2 := Nat.mod_lt _ (by omega)
  generalize a / 2 ^ i % 2 = z at h2 ⊢
  by_cases q : z = 1
  · rw [if_pos (decide_eq_true q)]; omega
  · rw [if_neg (fun z2 => q (of_decide_eq_true z2))]; omega
theorem isInN {a i : Nat} (ha : a < 2 ^ 31) (hi : i < 32) : fX6_isIn a i = if a.testBit i = true then 1 else 0 := by
  unfold fX6_isIn
  rw [bitN ha hi]
  cases a.testBit i <;> rfl
theorem hasN {a i : Nat} (ha : a < 2 ^ 31) (hi : i < 32) : fX7_has a i = if a.testBit i = true then 1 else 0 := by
  unfold fX7_has
  rw [bitN ha hi]
  cases a.testBit i <;> rfl
/-- numbers below n that are p, as bits -/
def setN : Nat → (Nat → Bool) → Nat
  | 0, _ => 0
  | n + 1, p => if p n = true then setN n p ||| 2 ^ n else setN n p
theorem setN_lt (p : Nat → Bool) : ∀ n, setN n p < 2 ^ n := by
  intro n
  induction n with
  | zero => exact Nat.one_pos
  | succ n ih =>
    have h1 : setN n p < 2 ^ (n + 1) := Nat.lt_of_lt_of_le ih (Nat.pow_le_pow_right (by omega) (by omega))
    unfold setN
    split
    · exact Nat.or_lt_two_pow h1 (p2_lt (by omega))
    · exact h1
theorem setN_bit (p : Nat → Bool) (i : Nat) : ∀ n, (setN n p).testBit i = (decide (i < n) && p i) := by
  intro n
  induction n with
  | zero => rw [show setN 0 p = 0 from rfl, Nat.zero_testBit]; rfl
  | succ n ih =>
    unfold setN
    by_cases e : i = n
    · subst e
      have h0 : (setN i p).testBit i = false := Nat.testBit_lt_two_pow (setN_lt p i)
      cases hp : p i
      · rw [if_neg (by simp), h0, Bool.and_false]
      · rw [if_pos rfl, Nat.testBit_or, h0, Nat.testBit_two_pow_self]
        simp
    · have e2 : decide (i < n + 1) = decide (i < n) := by
        by_cases q : i < n
        · rw [decide_eq_true q, decide_eq_true (by omega)]
        · rw [decide_eq_false q, decide_eq_false (by omega)]
      rw [e2, ← ih]
      split
      · rw [Nat.testBit_or, Nat.testBit_two_pow_of_ne (fun z => e z.symm), Bool.or_false]
      · rfl
theorem setN_lt31 (p : Nat → Bool) {n : Nat} (h : n ≤ 31) : setN n p < 2 ^ 31 := Nat.lt_of_lt_of_le (setN_lt p n) (Nat.pow_le_pow_right (by omega) h)
/-- one more of them -/
theorem setN_up {p : Nat → Bool} {n : Nat} (h : n < 31) : (p n = true → qor (setN n p : Int) (qshl 1 n) = (setN (n + 1) p : Int)) ∧ (p n = false → (setN n p : Int) = (setN (n + 1) p : Int)) := by
  refine ⟨fun hp => ?_, fun hp => ?_⟩
  · rw [qorP (setN_lt31 p (by omega)) h]
    show _ = ((if p n = true then setN n p ||| 2 ^ n else setN n p : Nat) : Int)
    rw [if_pos hp]
  · show _ = ((if p n = true then setN n p ||| 2 ^ n else setN n p : Nat) : Int)
    rw [if_neg (by rw [hp]; decide)]
/-- how many bits are set -/
theorem pcs_f : ∀ m : Fin 256, fJ6_bitCount_0f7a4 (m.val : Int) = ((if m.val.testBit 0 = true then 1 else 0) + (if m.val.testBit 1 = true then 1 else 0) + (if m.val.testBit 2 = true then 1 else 0) + (if m.val.testBit 3 = true then 1 else 0) + (if m.val.testBit 4 = true then 1 else 0) + (if m.val.testBit 5 = true then 1 else 0) + (if m.val.testBit 6 = true then 1 else 0) + (if m.val.testBit 7 = true then 1 else 0)) := by decide +kernel
def cntB : Nat → Nat → Nat
  | 0, _ => 0
  | n + 1, m => cntB n m + (if m.testBit n = true then 1 else 0)
theorem cntB_le (m : Nat) : ∀ n, cntB n m ≤ n := by
  intro n
  induction n with
  | zero => exact Nat.le_refl _
  | succ n ih =>
    unfold cntB
    split <;> omega
theorem bcN {m : Nat} (h : m < 256) : fJ6_bitCount_0f7a4 (m : Int) = (cntB 8 m : Int) := by
  have h1 := pcs_f ⟨m, h⟩
  refine h1.trans ?_
  simp only [cntB]
  generalize m.testBit 0 = b0
  generalize m.testBit 1 = b1
  generalize m.testBit 2 = b2
  generalize m.testBit 3 = b3
  generalize m.testBit 4 = b4
  generalize m.testBit 5 = b5
  generalize m.testBit 6 = b6
  generalize m.testBit 7 = b7
  cases b0 <;> cases b1 <;> cases b2 <;> cases b3 <;> cases b4 <;> cases b5 <;> cases b6 <;> cases b7 <;> rfl
theorem ones_l {σ : Hp} {m : Nat} (hm : m < 2 ^ 31) : ∀ (d c n : Nat), c + d = 8 → d + 1 ≤ n → lX7_ones_4 n σ m (cntB c m) c = some ((cntB 8 m : Int), σ) := by
  intro d
  induction d with
  | zero =>
    intro c n hc hn
    obtain ⟨n, rfl⟩ : ∃ m, n = m + 1 := ⟨n - 1, by omega⟩
    obtain rfl : c = 8 := by omega
    rw [lX7_ones_4_e0, if_pos (by omega)]
  | succ d ih =>
    intro c n hc hn
    obtain ⟨n, rfl⟩ : ∃ m, n = m + 1 := ⟨n - 1, by omega⟩
    have hl := cntB_le m c
    have e5 : wr ((c : Int) + 1) = ((c + 1 : Nat) : Int) := by rw [wr_of (by omega) (by omega)]; omega
    have e6 : wr ((cntB c m : Int) + (if m.testBit c = true then 1 else 0)) = ((cntB (c + 1) m : Nat) : Int) := by
      show _ = ((cntB c m + (if m.testBit c = true then 1 else 0) : Nat) : Int)
      cases m.testBit c
      · rw [if_neg (by decide), if_neg (by decide), wr_of (by omega) (by omega)]; omega
      · rw [if_pos rfl, if_pos rfl, wr_of (by omega) (by omega)]; omega
    rw [lX7_ones_4_e0, if_neg (by omega), bitN hm (by omega), e5, e6]
    exact ih (c + 1) n (by omega) (by omega)
theorem ones7 {σ : Hp} {m : Nat} (hm : m < 2 ^ 31) : fX7_ones σ m = some ((cntB 8 m : Int), σ) := by
  unfold fX7_ones
  exact ones_l hm 8 0 FU (by omega) (by rw [FU_eq]; omega)
