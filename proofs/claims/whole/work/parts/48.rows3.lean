def filG (f : Nat → Int) (a b : Nat) (h : Nat → Int) : Nat → Int := fun x => if a ≤ x ∧ x < b then h x else f x
theorem filG_step (f : Nat → Int) {a b : Nat} (h : Nat → Int) (hab : a < b) : filG (up1 f a (h a)) (a + 1) b h = filG f a b h := by
  funext x
  unfold filG up1
  by_cases h1 : x = a
  · rw [if_neg (by omega), if_pos h1, if_pos (by omega), h1]
  · rw [if_neg h1]
    by_cases h2 : a ≤ x ∧ x < b
    · rw [if_pos h2, if_pos (by omega)]
    · rw [if_neg h2, if_neg (by omega)]
theorem filG_end (f : Nat → Int) {a b : Nat} (h : Nat → Int) (hab : b ≤ a) : filG f a b h = f := by
  funext x
  unfold filG
  rw [if_neg (by omega)]
theorem copy7_a {a i b j N : Nat} (hN : N ≤ 40) (ha : a < 8) (hi : i + N ≤ 40) : ∀ (d c n : Nat) (σ : Hp), c + d = N → d + 1 ≤ n →
    lX7_copy_92 n σ a i b j N c = lX7_copy_129 FU (srow σ 25 0 (filG (σ 25 0) c N (fun x => σ 24 0 (40 * a + i + x)))) b j N 0 := by
  intro d
  induction d with
  | zero =>
    intro c n σ hc hn
    obtain ⟨n, rfl⟩ : ∃ m, n = m + 1 := ⟨n - 1, by omega⟩
    rw [lX7_copy_92_e0, if_pos (by omega), filG_end _ _ (by omega), srow_self]
  | succ d ih =>
    intro c n σ hc hn
    obtain ⟨n, rfl⟩ : ∃ m, n = m + 1 := ⟨n - 1, by omega⟩
    have e5 : wr ((c : Int) + 1) = ((c + 1 : Nat) : Int) := by rw [wr_of (by omega) (by omega)]; omega
    have e1 : wr (wr (wr (40 * (a : Int)) + i) + c) = ((40 * a + i + c : Nat) : Int) := by rw [wr_of (x := 40 * (a : Int)) (by omega) (by omega), wr_of (x := 40 * (a : Int) + i) (by omega) (by omega), wr_of (by omega) (by omega)]; omega
    rw [lX7_copy_92_e0, if_neg (by omega), e1, gd_pos (by omega), gd_pos (by omega), Int.toNat_natCast, Int.toNat_natCast]
    simp only [sq]
    rw [e5, ih (c + 1) n _ (by omega) (by omega), hup_row σ, srow_at, srow_srow, srow_ne (by omega), filG_step (σ 25 0) (fun x => σ 24 0 (40 * a + i + x)) (by omega)]
theorem copy7_b {b j N : Nat} (hN : N ≤ 40) (hb : b < 8) (hj : j + N ≤ 40) : ∀ (d c n : Nat) (σ : Hp), c + d = N → d + 1 ≤ n →
    lX7_copy_129 n σ b j N c = some ((N : Int), hup (srow σ 24 0 (filG (σ 24 0) (40 * b + j + c) (40 * b + j + N) (fun x => σ 25 0 (x - (40 * b + j))))) 7 0 4 0) := by
  intro d
  induction d with
  | zero =>
    intro c n σ hc hn
    obtain ⟨n, rfl⟩ : ∃ m, n = m + 1 := ⟨n - 1, by omega⟩
    rw [lX7_copy_129_e0, if_pos (by omega), filG_end _ _ (by omega), srow_self]
    rfl
  | succ d ih =>
    intro c n σ hc hn
    obtain ⟨n, rfl⟩ : ∃ m, n = m + 1 := ⟨n - 1, by omega⟩
    have e5 : wr ((c : Int) + 1) = ((c + 1 : Nat) : Int) := by rw [wr_of (by omega) (by omega)]; omega
    have e1 : wr (wr (wr (40 * (b : Int)) + j) + c) = ((40 * b + j + c : Nat) : Int) := by rw [wr_of (x := 40 * (b : Int)) (by omega) (by omega), wr_of (x := 40 * (b : Int) + j) (by omega) (by omega), wr_of (by omega) (by omega)]; omega
    rw [lX7_copy_129_e0, if_neg (by omega), e1, gd_pos (by omega), gd_pos (by omega), Int.toNat_natCast, Int.toNat_natCast]
    simp only [sq]
    have e6 : σ 25 0 c = (fun x => σ 25 0 (x - (40 * b + j))) (40 * b + j + c) := by
      show σ 25 0 c = σ 25 0 (40 * b + j + c - (40 * b + j))
      rw [show 40 * b + j + c - (40 * b + j) = c by omega]
    rw [e5, ih (c + 1) n _ (by omega) (by omega), hup_row σ, srow_at, srow_srow, srow_ne (by omega), e6, show 40 * b + j + (c + 1) = 40 * b + j + c + 1 by omega, filG_step (σ 24 0) (fun x => σ 25 0 (x - (40 * b + j))) (by omega)]
theorem part7 {σ : Hp} {r : Nat} {i n : Int} (hr : r < 8) (hi : Rg i) (hn : Rg n) (hm : 0 ≤ σ 23 0 r ∧ σ 23 0 r ≤ 40) : fX7_isPart σ r i n = some (if 0 ≤ i ∧ 0 ≤ n ∧ i + n ≤ σ 23 0 r then 1 else 0, σ) := by
  unfold fX7_isPart
  obtain ⟨i1, i2⟩ := hi
  obtain ⟨n1, n2⟩ := hn
  by_cases h1 : i < 0
  · rw [if_pos h1, if_neg (by omega)]
  by_cases h2 : n < 0
  · rw [if_neg h1, if_pos h2, if_neg (by omega)]
  rw [if_neg h1, if_neg h2, gd_pos (by omega), Int.toNat_natCast]
  by_cases h3 : σ 23 0 r < i
  · rw [if_pos h3, if_neg (by omega)]
  rw [if_neg h3, gd_pos (by omega), wr_of (by omega) (by omega)]
  by_cases h4 : σ 23 0 r - i < n
  · rw [if_pos h4, if_neg (by omega)]
  · rw [if_neg h4, if_pos (by omega)]
theorem span6 {σ : Hp} {j : Nat} {i n : Int} (hn : Rg n) (hi : Rg i) (h3 : 0 ≤ σ 3 j 3 ∧ σ 3 j 3 ≤ 40) : fX3_spans σ j i n = if 0 ≤ i ∧ 0 ≤ n ∧ i + n ≤ σ 3 j 3 then 1 else 0 := by
  unfold fX3_spans
  by_cases h1 : n < 0
  · rw [if_pos h1, if_neg (by omega)]
  · obtain ⟨n1, n2⟩ := hn
    rw [if_neg h1, wr_of (by omega) (by omega)]
    repeat' split
    all_goals omega
theorem ok_copy {σ : Hp} (h : Sim σ) {a i b j n : Int} (hi : Rg i) (hj : Rg j) (hn : Rg n) : Ok (fun τ => fX6_copy τ a i b j n) (fun τ => fX7_copy τ a i b j n) σ := by
  by_cases ha : 0 ≤ a ∧ a < 8
  case neg =>
    refine Ok.same (r := -1000001) h ?_ ?_
    · simp only [fX6_copy]; rw [if_pos (row6_0.mpr ha)]
    · simp only [fX7_copy]; rw [if_pos (row7_0.mpr ha)]
  by_cases hb : 0 ≤ b ∧ b < 8
  case neg =>
    refine Ok.same (r := -1000001) h ?_ ?_
    · simp only [fX6_copy]; rw [if_neg (fun z => row6_0.mp z ha), if_pos (row6_0.mpr hb)]
    · simp only [fX7_copy]; rw [if_neg (fun z => row7_0.mp z ha), if_pos (row7_0.mpr hb)]
  obtain ⟨r, rfl⟩ : ∃ r : Nat, a = r := ⟨a.toNat, by omega⟩
  obtain ⟨q, rfl⟩ : ∃ q : Nat, b = q := ⟨b.toNat, by omega⟩
  have hr8 : r < 8 := by omega
  have hq8 : q < 8 := by omega
  have s6 : ∀ {A : Option (Int × Hp)}, A = fX6_copy σ r i q j n → A = fX6_copy σ r i q j n := fun h => h
  rcases h.1 r hr8 with ⟨l1, t1⟩ | ⟨l1, t1, t2, t3, m1, it1⟩
  · refine Ok.found (v := 1) h (by omega) ?_ (fun τ hτ => ?_)
    · simp only [fX6_copy]
      rw [if_neg (fun z => row6_0.mp z ha), if_neg (fun z => row6_0.mp z hb), gd_pos (by omega), gd_pos (by omega), Int.toNat_natCast, if_pos t1]; rfl
    · simp only [fX7_copy]
      rw [if_neg (fun z => row7_0.mp z ha), if_neg (fun z => row7_0.mp z hb), miss7 hr8, cl_pos, hτ, hup_s (by omega), if_pos l1, if_neg (by omega)]; rfl
  rcases h.1 q hq8 with ⟨l2, u1⟩ | ⟨l2, u1, u2, u3, m2, it2⟩
  · refine Ok.found (v := 1) h (by omega) ?_ (fun τ hτ => ?_)
    · simp only [fX6_copy]
      rw [if_neg (fun z => row6_0.mp z ha), if_neg (fun z => row6_0.mp z hb), gd_pos (by omega), gd_pos (by omega), Int.toNat_natCast, Int.toNat_natCast, if_neg (by omega), if_pos u1]; rfl
    · simp only [fX7_copy]
      rw [if_neg (fun z => row7_0.mp z ha), if_neg (fun z => row7_0.mp z hb), miss7 hr8, cl_pos, hτ, hup_s (by omega), if_neg (show ¬ σ 22 0 r = -1000000 by omega), if_pos rfl, miss7 hq8, cl_pos, hup_s (by omega), if_pos l2, if_neg (by omega)]; rfl
  by_cases hl : σ 22 0 r = σ 22 0 q
  case neg =>
    refine Ok.found (v := 5) h (by omega) ?_ (fun τ hτ => ?_)
    · simp only [fX6_copy]
      rw [if_neg (fun z => row6_0.mp z ha), if_neg (fun z => row6_0.mp z hb), gd_pos (by omega), gd_pos (by omega), Int.toNat_natCast, Int.toNat_natCast, if_neg (by omega), if_neg (by omega), if_neg (by rw [t2, u2]; exact hl)]; rfl
    · simp only [fX7_copy]
      rw [if_neg (fun z => row7_0.mp z ha), if_neg (fun z => row7_0.mp z hb), miss7 hr8, cl_pos, hτ, hup_s (by omega), if_neg (show ¬ σ 22 0 r = -1000000 by omega), if_pos rfl, miss7 hq8, cl_pos, hup_s (by omega), if_neg (show ¬ σ 22 0 q = -1000000 by omega), if_pos rfl, gd_pos (by omega), gd_pos (by omega), Int.toNat_natCast, Int.toNat_natCast, if_neg hl]; rfl
  have p1 := span6 (σ := σ) (j := r) (i := i) (n := n) hn hi (by omega)
  have p2 := span6 (σ := σ) (j := q) (i := j) (n := n) hn hj (by omega)
  have pre7 : ∀ τ : Hp, τ 22 0 = σ 22 0 → fX7_copy τ r i q j n = cl (fX7_isPart τ r i n) (fun r25 σ26 => if r25 = 0 then cl (fX7_found σ26 2) (fun r31 σ32 => some (r31, σ32)) else cl (fX7_isPart σ26 q j n) (fun r36 σ37 => if r36 = 0 then cl (fX7_found σ37 2) (fun r42 σ43 => some (r42, σ43)) else lX7_copy_92 FU σ37 r i q j n 0)) := by
    intro τ hτ
    unfold fX7_copy
    rw [if_neg (fun z => row7_0.mp z ha), if_neg (fun z => row7_0.mp z hb), miss7 hr8, cl_pos, hτ, if_neg (show ¬ σ 22 0 r = -1000000 by omega), if_pos rfl, miss7 hq8, cl_pos, hτ, if_neg (show ¬ σ 22 0 q = -1000000 by omega), if_pos rfl, gd_pos (by omega), gd_pos (by omega), Int.toNat_natCast, Int.toNat_natCast, if_pos hl]
  by_cases hp1 : 0 ≤ i ∧ 0 ≤ n ∧ i + n ≤ σ 23 0 r
  case neg =>
    refine Ok.found (v := 2) h (by omega) ?_ (fun τ hτ => ?_)
    · simp only [fX6_copy]
      rw [if_neg (fun z => row6_0.mp z ha), if_neg (fun z => row6_0.mp z hb), gd_pos (by omega), gd_pos (by omega), Int.toNat_natCast, Int.toNat_natCast, if_neg (by omega), if_neg (by omega), if_pos (by rw [t2, u2]; exact hl), p1, t3, if_neg hp1, if_pos rfl]; rfl
    · rw [pre7 τ (by rw [hτ, hup_s (by omega)]), part7 hr8 hi hn (by rw [hτ, hup_s (by omega)]; exact m1), cl_pos, hτ, hup_s (by omega), if_neg hp1, if_pos rfl]; rfl
  by_cases hp2 : 0 ≤ j ∧ 0 ≤ n ∧ j + n ≤ σ 23 0 q
  case neg =>
    refine Ok.found (v := 2) h (by omega) ?_ (fun τ hτ => ?_)
    · simp only [fX6_copy]
      rw [if_neg (fun z => row6_0.mp z ha), if_neg (fun z => row6_0.mp z hb), gd_pos (by omega), gd_pos (by omega), Int.toNat_natCast, Int.toNat_natCast, if_neg (by omega), if_neg (by omega), if_pos (by rw [t2, u2]; exact hl), p1, t3, if_pos hp1, if_neg (by omega), p2, u3, if_neg hp2, if_pos rfl]; rfl
    · rw [pre7 τ (by rw [hτ, hup_s (by omega)]), part7 hr8 hi hn (by rw [hτ, hup_s (by omega)]; exact m1), cl_pos, hτ, hup_s (by omega), if_pos hp1, if_neg (by omega), part7 hq8 hj hn (by rw [hup_s (by omega)]; exact m2), cl_pos, hup_s (by omega), if_neg hp2, if_pos rfl]; rfl
  obtain ⟨I, rfl⟩ : ∃ x : Nat, i = x := ⟨i.toNat, by omega⟩
  obtain ⟨J, rfl⟩ : ∃ x : Nat, j = x := ⟨j.toNat, by omega⟩
  obtain ⟨N, rfl⟩ : ∃ x : Nat, n = x := ⟨n.toNat, by omega⟩
  have e1 : fX6_copy σ r I q J N = some ((N : Int), hup (hcp σ 11 r I 11 q J N) 6 0 9 0) := by
    unfold fX6_copy
    rw [if_neg (fun z => row6_0.mp z ha), if_neg (fun z => row6_0.mp z hb), gd_pos (by omega), gd_pos (by omega), Int.toNat_natCast, Int.toNat_natCast, if_neg (by omega), if_neg (by omega), if_pos (by rw [t2, u2]; exact hl), p1, t3, if_pos hp1, if_neg (by omega), p2, u3, if_pos hp2, if_neg (by omega), gd_pos (by omega), Int.toNat_natCast, Int.toNat_natCast, Int.toNat_natCast]
    rfl
  refine ⟨(N : Int), _, ?_, e1, ?_, ?_⟩
  · exact hup (srow (srow (hup (hcp σ 11 r I 11 q J N) 6 0 9 0) 25 0 (filG (σ 25 0) 0 N (fun x => σ 24 0 (40 * r + I + x)))) 24 0 (filG (σ 24 0) (40 * q + J + 0) (40 * q + J + N) (fun x => filG (σ 25 0) 0 N (fun x => σ 24 0 (40 * r + I + x)) (x - (40 * q + J))))) 7 0 4 0
  · show fX7_copy _ _ _ _ _ _ = _
    rw [pre7 _ (by rw [hup_s (by omega), hcp_s (by omega)]), part7 hr8 hi hn (by rw [hup_s (by omega), hcp_s (by omega)]; exact m1), cl_pos, hup_s (by omega), hcp_s (by omega), if_pos hp1, if_neg (by omega), part7 hq8 hj hn (by rw [hup_s (by omega), hcp_s (by omega)]; exact m2), cl_pos, hup_s (by omega), hcp_s (by omega), if_pos hp2, if_neg (by omega)]
    have q1 := copy7_a (a := r) (i := I) (b := q) (j := J) (N := N) (by omega) hr8 (by omega) N 0 FU (hup (hcp σ 11 r I 11 q J N) 6 0 9 0) (by omega) (by rw [FU_eq]; omega)
    have q2 := copy7_b (b := q) (j := J) (N := N) (by omega) hq8 (by omega) N 0 FU (srow (hup (hcp σ 11 r I 11 q J N) 6 0 9 0) 25 0 (filG (σ 25 0) 0 N (fun x => σ 24 0 (40 * r + I + x)))) (by omega) (by rw [FU_eq]; omega)
    rw [show ((0 : Nat) : Int) = 0 from rfl] at q1 q2
    rw [q1, hup_s (by omega), hcp_s (by omega), hup_s (s' := 24) (by omega), hcp_s (s' := 24) (by omega), q2, srow_at, srow_ne (by omega), hup_s (by omega), hcp_s (by omega)]
  · refine h.rows (fun s j h3 h11 h22 h23 h24 h25 h6 h7 => ?_) (fun k hk => ?_) (fun k hk => ?_) ?_ ?_
    · rw [hup_s h7, srow_ne (by omega), srow_ne (by omega), hup_s h6, hcp_s h11]
    · rw [hup_s (by omega), srow_ne (by omega), srow_ne (by omega), hup_k hk, hcp_s (by omega)]
    · rw [hup_k hk, srow_ne (by omega), srow_ne (by omega), hup_s (by omega), hcp_s (by omega)]
    · rw [hup_s (by omega), srow_ne (by omega), srow_ne (by omega), hup_at, hup_at]
    · have x3 : hup (srow (srow (hup (hcp σ 11 r I 11 q J N) 6 0 9 0) 25 0 (filG (σ 25 0) 0 N (fun x => σ 24 0 (40 * r + I + x)))) 24 0 (filG (σ 24 0) (40 * q + J + 0) (40 * q + J + N) (fun x => filG (σ 25 0) 0 N (fun x => σ 24 0 (40 * r + I + x)) (x - (40 * q + J))))) 7 0 4 0 3 = σ 3 := by
        funext y
        rw [hup_s (by omega), srow_ne (by omega), srow_ne (by omega), hup_s (by omega), hcp_s (by omega)]
      have x11 : hup (srow (srow (hup (hcp σ 11 r I 11 q J N) 6 0 9 0) 25 0 (filG (σ 25 0) 0 N (fun x => σ 24 0 (40 * r + I + x)))) 24 0 (filG (σ 24 0) (40 * q + J + 0) (40 * q + J + N) (fun x => filG (σ 25 0) 0 N (fun x => σ 24 0 (40 * r + I + x)) (x - (40 * q + J))))) 7 0 4 0 11 = hcp σ 11 r I 11 q J N 11 := by
        funext y
        rw [hup_s (by omega), srow_ne (by omega), srow_ne (by omega), hup_s (by omega)]
      rw [x3, x11]
      refine h.1.upd (r := q) (fun y hy => rfl) (fun y hy => ?_) (fun y hy => ?_) (fun y hy => ?_) (fun y hy k hk => ?_) (Or.inr ⟨?_, u1, ?_, ?_, ?_, fun k hk => ?_⟩)
      · rw [hcp_j hy]
      · rw [hup_s (by omega), srow_ne (by omega), srow_ne (by omega), hup_s (by omega), hcp_s (by omega)]
      · rw [hup_s (by omega), srow_ne (by omega), srow_ne (by omega), hup_s (by omega), hcp_s (by omega)]
      · rw [hup_s (by omega), srow_at]
        unfold filG
        rw [if_neg (by omega)]
      · rw [hup_s (by omega), srow_ne (by omega), srow_ne (by omega), hup_s (by omega), hcp_s (by omega)]; exact l2
      · rw [hup_s (by omega), srow_ne (by omega), srow_ne (by omega), hup_s (by omega), hcp_s (by omega)]; exact u2
      · rw [hup_s (by omega), srow_ne (by omega), srow_ne (by omega), hup_s (by omega), hcp_s (by omega)]; exact u3
      · rw [hup_s (by omega), srow_ne (by omega), srow_ne (by omega), hup_s (by omega), hcp_s (by omega)]; exact m2
      · rw [hup_s (by omega), srow_at]
        unfold filG
        by_cases hk2 : J ≤ k ∧ k < J + N
        · rw [hcp_in hk2.1 hk2.2, if_pos (by omega)]
          dsimp only
          rw [if_pos (by omega), it1 _ (by omega)]
          congr 1
          omega
        · rw [hcp_out (by omega), if_neg (by omega)]
          exact it2 k hk
