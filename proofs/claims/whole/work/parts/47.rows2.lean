theorem find6 {σ : Hp} {j : Nat} {i n : Int} (hn : Rg n) (hi : Rg i) (h3 : 0 ≤ σ 3 j 3 ∧ σ 3 j 3 ≤ 40) (ht : σ 3 j 1 = 1) : fX6_findingIn σ j i n = if 0 ≤ i ∧ 0 ≤ n ∧ i + n ≤ σ 3 j 3 then 0 else 2 := by
  have e : fX3_spans σ j i n = if 0 ≤ i ∧ 0 ≤ n ∧ i + n ≤ σ 3 j 3 then 1 else 0 := by
    unfold fX3_spans
    by_cases h1 : n < 0
    · rw [if_pos h1, if_neg (by omega)]
    · obtain ⟨n1, n2⟩ := hn
      rw [if_neg h1, wr_of (by omega) (by omega)]
      repeat' split
      all_goals omega
  unfold fX6_findingIn
  rw [ht, if_neg (by omega), e]
  split <;> simp
theorem narrow6 {σ : Hp} {j : Nat} {v : Int} : fX3_narrowed σ j v = if σ 3 j 2 = 0 then qi8 v else if σ 3 j 2 = 1 then qi16 v else v := rfl
theorem bm_of {z : Int} (m h : Int) (n : Nat) (hm : (n : Int) = m) (hh : (m + 1) / 2 = h) : z.bmod n = if z % m < h then z % m else z % m - m := by
  subst hm
  subst hh
  rfl
theorem shk_8 {N : Int} (h0 : 0 ≤ N) (h1 : N < 4294967296) : ((N * 16777216 % 4294967296).bmod (2 ^ 32)) / 16777216 = (N.bmod (2 ^ 32)).bmod 256 := by
  rw [bm_of 4294967296 2147483648 (2 ^ 32) (by decide) (by decide), bm_of 256 128 256 (by decide) (by decide), bm_of 4294967296 2147483648 (2 ^ 32) (by decide) (by decide)]
  repeat' split
  all_goals omega
theorem shk_16 {N : Int} (h0 : 0 ≤ N) (h1 : N < 4294967296) : ((N * 65536 % 4294967296).bmod (2 ^ 32)) / 65536 = (N.bmod (2 ^ 32)).bmod 65536 := by
  rw [bm_of 4294967296 2147483648 (2 ^ 32) (by decide) (by decide), bm_of 65536 32768 65536 (by decide) (by decide), bm_of 4294967296 2147483648 (2 ^ 32) (by decide) (by decide)]
  repeat' split
  all_goals omega
theorem shk (x : Int32) (s : Int32) (k m : Nat) (hs : (s.toBitVec.smod 32).toNat = k) (hk : (k = 24 ∧ m = 256) ∨ (k = 16 ∧ m = 65536)) : (x <<< s >>> s).toInt = x.toInt.bmod m := by
  rw [pk_shr _ s k hs, Int.shiftRight_eq_div_pow]
  have h1 := pk_shl x s k hs
  have h2 : (x <<< s).toInt = ((x <<< s).toBitVec.toNat : Int).bmod (2 ^ 32) := BitVec.toInt_eq_toNat_bmod _
  have h3 : x.toInt = (x.toBitVec.toNat : Int).bmod (2 ^ 32) := BitVec.toInt_eq_toNat_bmod _
  have h4 : x.toBitVec.toNat < 2 ^ 32 := x.toBitVec.isLt
  rw [h2, h1, h3]
  generalize x.toBitVec.toNat = N at h4 ⊢
  have h6 : N < 4294967296 := h4
  clear h4
  have h5 : (N : Int) < 4294967296 := by omega
  rcases hk with ⟨rfl, rfl⟩ | ⟨rfl, rfl⟩
  · have h := shk_8 (N := (N : Int)) (Int.natCast_nonneg N) h5
    rw [Int.natCast_emod, Int.natCast_mul]
    exact h
  · have h := shk_16 (N := (N : Int)) (Int.natCast_nonneg N) h5
    rw [Int.natCast_emod, Int.natCast_mul]
    exact h
theorem cut7_8 {v : Int} (hv : Rg v) : qshr (qshl v 24) 24 = qi8 v := by
  unfold qshr qshl qi8
  rw [Int32.ofInt_toInt, shk (Int32.ofInt v) (Int32.ofInt 24 &&& 31) 24 256 (by decide) (Or.inl ⟨rfl, rfl⟩), Int8.toInt_toInt32, Int32.toInt_toInt8]
theorem cut7_16 {v : Int} (hv : Rg v) : qshr (qshl v 16) 16 = qi16 v := by
  unfold qshr qshl qi16
  rw [Int32.ofInt_toInt, shk (Int32.ofInt v) (Int32.ofInt 16 &&& 31) 16 65536 (by decide) (Or.inr ⟨rfl, rfl⟩), Int16.toInt_toInt32, Int32.toInt_toInt16]
theorem cut7 {l v : Int} (hv : Rg v) : fX7_cut l v = if l = 0 then qi8 v else if l = 1 then qi16 v else v := by
  unfold fX7_cut
  rw [cut7_8 hv, cut7_16 hv]
theorem miss7 {σ : Hp} {r : Nat} (hr : r < 8) : fX7_isMissing σ r = some (if σ 22 0 r = -1000000 then 1 else 0, σ) := by
  unfold fX7_isMissing
  rw [gd_pos (by omega), Int.toNat_natCast]
  split <;> rfl
theorem ok_drop {σ : Hp} (h : Sim σ) {a : Int} : Ok (fun τ => fX6_drop τ a) (fun τ => fX7_drop τ a) σ := by
  by_cases hr : 0 ≤ a ∧ a < 8
  case neg =>
    refine Ok.same (r := -1000001) h ?_ ?_
    · simp only [fX6_drop]; rw [if_pos (row6_0.mpr hr)]
    · simp only [fX7_drop]; rw [if_pos (row7_0.mpr hr)]
  obtain ⟨r, rfl⟩ : ∃ r : Nat, a = r := ⟨a.toNat, by omega⟩
  have hr8 : r < 8 := by omega
  rcases h.1 r hr8 with ⟨l1, t1⟩ | ⟨l1, t1, t2, t3, m1, it⟩
  · refine Ok.found (v := 1) h (by omega) ?_ (fun τ hτ => ?_)
    · simp only [fX6_drop]
      rw [if_neg (fun z => row6_0.mp z hr), gd_pos (by omega), Int.toNat_natCast, if_pos t1]; rfl
    · simp only [fX7_drop]
      rw [if_neg (fun z => row7_0.mp z hr), miss7 hr8, cl_pos, hτ, hup_s (by omega), if_pos l1, if_neg (by omega)]; rfl
  · have e1 : fX6_drop σ r = some (σ 3 r 3, hup (hup σ 3 r 1 0) 6 0 9 0) := by
      unfold fX6_drop
      rw [if_neg (fun z => row6_0.mp z hr), gd_pos (by omega), Int.toNat_natCast, if_neg (by omega), gd_pos (by omega)]
      simp only [sq]
      rw [gd_pos (by omega), hup_k (by omega)]; rfl
    refine ⟨σ 3 r 3, _, hup (hup (hup (hup σ 3 r 1 0) 6 0 9 0) 22 0 r (-1000000)) 7 0 4 0, e1, ?_, ?_⟩
    · simp only [fX7_drop]
      rw [if_neg (fun z => row7_0.mp z hr), miss7 hr8, cl_pos, hup_s (by omega), hup_s (by omega), if_neg (show ¬ σ 22 0 r = -1000000 by omega), if_pos rfl, gd_pos (by omega), Int.toNat_natCast]
      simp only [sq]
      rw [gd_pos (by omega), hup_s (by omega), hup_s (by omega), hup_s (by omega), t3]; rfl
    · refine h.rows (fun s j h3 h11 h22 h23 h24 h25 h6 h7 => ?_) (fun k hk => ?_) (fun k hk => ?_) ?_ ?_
      · simp (disch := omega) only [hup_s]
      · simp (disch := omega) only [hup_s, hup_k]
      · simp (disch := omega) only [hup_s, hup_k]
      · simp (disch := omega) only [hup_s, hup_at]
      · refine h.1.upd (r := r) (fun j hj => ?_) (fun j hj => ?_) (fun j hj => ?_) (fun j hj => ?_) (fun j hj k hk => ?_) (Or.inl ⟨?_, ?_⟩)
        · simp (disch := omega) only [hup_s, hup_j]
        · simp (disch := omega) only [hup_s]
        · simp (disch := omega) only [hup_s, hup_k]
        · simp (disch := omega) only [hup_s]
        · simp (disch := omega) only [hup_s]
        · simp (disch := omega) only [hup_s, hup_at]
        · simp (disch := omega) only [hup_s, hup_at]
theorem ok_feed {σ : Hp} (h : Sim σ) {a : Int} : Ok (fun τ => fX6_feed τ a) (fun τ => fX7_feed τ a) σ := by
  by_cases hr : 0 ≤ a ∧ a ≤ 255
  case neg =>
    refine Ok.same (r := -1000001) h ?_ ?_
    · simp only [fX6_feed]
      by_cases h0 : a < 0
      · rw [if_pos h0]
      · rw [if_neg h0, if_neg (by omega)]
    · simp only [fX7_feed]; rw [if_pos (in_0.mpr hr)]
  obtain ⟨a1, ⟨t1, t2, t3⟩, a3, a4, a5, a6, a7⟩ := id h
  by_cases hf : σ 7 0 6 = 140
  · refine Ok.same (r := -1000003) h ?_ ?_
    · simp only [fX6_feed, fX4_takes]
      rw [if_neg (by omega), if_pos hr.2, if_neg (by omega), cl_pos, if_pos rfl]
    · simp only [fX7_feed]
      rw [if_neg (in_1 hr), if_pos hf]
  · obtain ⟨n, hn⟩ : ∃ n : Nat, σ 7 0 6 = n := ⟨(σ 7 0 6).toNat, by omega⟩
    have e1 : fX6_feed σ a = some ((n : Int) + 1, hup (hup σ 12 0 n a) 4 0 1 ((n : Int) + 1)) := by
      simp only [fX6_feed, fX4_takes]
      rw [if_neg (by omega), if_pos hr.2, if_pos (by omega), gd_pos (by omega)]
      simp only [sq]
      rw [cl_pos, if_neg (by omega), hup_at, hup_s (by omega), t1, hn, Int.toNat_natCast, wr_of (by omega) (by omega)]
    refine ⟨(n : Int) + 1, _, hup (hup (hup (hup σ 12 0 n a) 4 0 1 ((n : Int) + 1)) 26 0 n a) 7 0 6 ((n : Int) + 1), e1, ?_, ?_⟩
    · simp only [fX7_feed]
      rw [if_neg (in_1 hr), hup_s (by omega), hup_s (by omega), if_neg hf, gd_pos (by omega)]
      simp only [sq]
      rw [hup_at, hup_s (by omega), hup_s (by omega), hup_s (by omega), hn, Int.toNat_natCast, wr_of (by omega) (by omega)]
    · have e : ∀ s, s ≠ 12 → s ≠ 4 → s ≠ 26 → s ≠ 7 → hup (hup (hup (hup σ 12 0 n a) 4 0 1 ((n : Int) + 1)) 26 0 n a) 7 0 6 ((n : Int) + 1) s = σ s := fun s h1 h2 h3 h4 => by simp (disch := omega) only [hup_s]
      have e7 : ∀ k, k ≠ 6 → hup (hup (hup (hup σ 12 0 n a) 4 0 1 ((n : Int) + 1)) 26 0 n a) 7 0 6 ((n : Int) + 1) 7 0 k = σ 7 0 k := fun k hk => by simp (disch := omega) only [hup_s, hup_k]
      unfold Sim
      rw [e 3 (by omega) (by omega) (by omega) (by omega), e 11 (by omega) (by omega) (by omega) (by omega), e 22 (by omega) (by omega) (by omega) (by omega), e 23 (by omega) (by omega) (by omega) (by omega), e 24 (by omega) (by omega) (by omega) (by omega), e 0 (by omega) (by omega) (by omega) (by omega), e 8 (by omega) (by omega) (by omega) (by omega), e 33 (by omega) (by omega) (by omega) (by omega), e 6 (by omega) (by omega) (by omega) (by omega), e7 21 (by omega), e7 7 (by omega), e7 4 (by omega)]
      refine ⟨a1, ⟨?_, ?_, fun k hk => ?_⟩, a3.cg (fun s j hs _ => by rw [e s (by rcases hs with q | q <;> omega) (by rcases hs with q | q <;> omega) (by rcases hs with q | q <;> omega) (by rcases hs with q | q <;> omega)]) (by rw [e 27 (by omega) (by omega) (by omega) (by omega)]) (by rw [e 1 (by omega) (by omega) (by omega) (by omega)]) (by rw [e 1 (by omega) (by omega) (by omega) (by omega)]) (by rw [e 29 (by omega) (by omega) (by omega) (by omega)]) (e7 16 (by omega)) (by rw [e 31 (by omega) (by omega) (by omega) (by omega)]) (by rw [e 30 (by omega) (by omega) (by omega) (by omega)]), a4, a5, a6, a7.cg (fun j _ => by rw [e 5 (by omega) (by omega) (by omega) (by omega)]) (by rw [e 5 (by omega) (by omega) (by omega) (by omega)]; exact a7 1 (by omega))⟩
      · simp (disch := omega) only [hup_s, hup_at]
      · rw [hup_at]; omega
      · rw [hup_at] at hk
        by_cases hkn : k = n
        · subst hkn
          simp (disch := omega) only [hup_s, hup_at]
          exact ⟨trivial, hr.1, hr.2⟩
        · simp (disch := omega) only [hup_s, hup_k]
          exact t3 k (by omega)
theorem ok_set {σ : Hp} (h : Sim σ) {a i v : Int} (hi : Rg i) (hv : Rg v) : Ok (fun τ => fX6_set τ a i v) (fun τ => fX7_set τ a i v) σ := by
  by_cases hr : 0 ≤ a ∧ a < 8
  case neg =>
    refine Ok.same (r := -1000001) h ?_ ?_
    · simp only [fX6_set]; rw [if_pos (row6_0.mpr hr)]
    · simp only [fX7_set]; rw [if_pos (row7_0.mpr hr)]
  obtain ⟨r, rfl⟩ : ∃ r : Nat, a = r := ⟨a.toNat, by omega⟩
  have hr8 : r < 8 := by omega
  rcases h.1 r hr8 with ⟨l1, t1⟩ | ⟨l1, t1, t2, t3, m1, it⟩
  · refine Ok.found (v := 1) h (by omega) ?_ (fun τ hτ => ?_)
    · simp only [fX6_set]
      have e : fX6_findingIn σ r i 1 = 1 := by unfold fX6_findingIn; rw [if_pos t1]
      rw [if_neg (fun z => row6_0.mp z hr), gd_pos (by omega), Int.toNat_natCast, e, if_neg (by omega)]; rfl
    · simp only [fX7_set]
      rw [if_neg (fun z => row7_0.mp z hr), miss7 hr8, cl_pos, hτ, hup_s (by omega), if_pos l1, if_neg (by omega)]; rfl
  · have e := find6 (σ := σ) (j := r) (i := i) (n := 1) (Rg_c rfl) hi (by omega) t1
    have em : wr (σ 23 0 r - 1) = σ 23 0 r - 1 := wr_of (by omega) (by omega)
    by_cases hin : 0 ≤ i ∧ i < σ 23 0 r
    · obtain ⟨k, rfl⟩ : ∃ k : Nat, i = k := ⟨i.toNat, by omega⟩
      rw [if_pos (by omega)] at e
      obtain ⟨x, hx⟩ : ∃ x, (if σ 22 0 r = 0 then qi8 v else if σ 22 0 r = 1 then qi16 v else v) = x := ⟨_, rfl⟩
      have e1 : fX6_set σ r k v = some (x, hup (hup σ 11 r k x) 6 0 9 0) := by
        unfold fX6_set
        rw [if_neg (fun z => row6_0.mp z hr), gd_pos (by omega), Int.toNat_natCast, if_pos e, gd_pos (by omega), gd_pos (by omega), gd_pos (by omega), Int.toNat_natCast, narrow6, t2, hx]
        simp only [sq]
        rw [gd_pos (by omega), gd_pos (by omega), hup_at]; rfl
      have e4 : wr (wr (40 * (r : Int)) + k) = ((40 * r + k : Nat) : Int) := by rw [wr_of (x := 40 * (r : Int)) (by omega) (by omega), wr_of (by omega) (by omega)]; omega
      refine ⟨x, _, hup (hup (hup (hup σ 11 r k x) 6 0 9 0) 24 0 (40 * r + k) x) 7 0 4 0, e1, ?_, ?_⟩
      · simp only [fX7_set]
        rw [if_neg (fun z => row7_0.mp z hr), miss7 hr8, cl_pos, hup_s (by omega), hup_s (by omega), if_neg (show ¬ σ 22 0 r = -1000000 by omega), if_pos rfl, gd_pos (by omega), Int.toNat_natCast, hup_s (by omega), hup_s (by omega), em, if_neg (in_1 (by omega)), gd_pos (by omega), e4, gd_pos (by omega), cut7 hv, hx, Int.toNat_natCast]
        simp only [sq]
        rw [gd_pos (by omega), hup_at]; rfl
      · refine h.rows (fun s j h3 h11 h22 h23 h24 h25 h6 h7 => ?_) (fun k hk => ?_) (fun k hk => ?_) ?_ ?_
        · simp (disch := omega) only [hup_s]
        · simp (disch := omega) only [hup_s, hup_k]
        · simp (disch := omega) only [hup_s, hup_k]
        · simp (disch := omega) only [hup_s, hup_at]
        · refine h.1.upd (r := r) (fun j hj => ?_) (fun j hj => ?_) (fun j hj => ?_) (fun j hj => ?_) (fun j hj k' hk' => ?_) (Or.inr ⟨?_, ?_, ?_, ?_, ?_, fun k' hk' => ?_⟩)
          · simp (disch := omega) only [hup_s]
          · simp (disch := omega) only [hup_s, hup_j]
          · simp (disch := omega) only [hup_s]
          · simp (disch := omega) only [hup_s]
          · simp (disch := omega) only [hup_s, hup_k]
          · simp (disch := omega) only [hup_s]; exact l1
          · simp (disch := omega) only [hup_s]; exact t1
          · simp (disch := omega) only [hup_s]; exact t2
          · simp (disch := omega) only [hup_s]; exact t3
          · simp (disch := omega) only [hup_s]; exact m1
          · by_cases hkk : k' = k
            · subst hkk
              simp (disch := omega) only [hup_s, hup_at]
            · simp (disch := omega) only [hup_s, hup_k]
              exact it k' hk'
    · rw [if_neg (by omega)] at e
      refine Ok.found (v := 2) h (by omega) ?_ (fun τ hτ => ?_)
      · simp only [fX6_set]
        rw [if_neg (fun z => row6_0.mp z hr), gd_pos (by omega), Int.toNat_natCast, e, if_neg (by omega)]; rfl
      · simp only [fX7_set]
        rw [if_neg (fun z => row7_0.mp z hr), miss7 hr8, cl_pos, hτ, hup_s (by omega), if_neg (show ¬ σ 22 0 r = -1000000 by omega), if_pos rfl, gd_pos (by omega), Int.toNat_natCast, hup_s (by omega), em, if_pos (in_0.mpr (by omega))]; rfl
