/-! holds -/
theorem setN_congr {p q : Nat → Bool} : ∀ (n : Nat), (∀ i, i < n → p i = q i) → setN n p = setN n q := by
  intro n
  induction n with
  | zero => intro _; rfl
  | succ n ih =>
    intro h
    have e := ih (fun i hi => h i (by omega))
    show (if p n = true then setN n p ||| 2 ^ n else setN n p) = (if q n = true then setN n q ||| 2 ^ n else setN n q)
    rw [e, h n (by omega)]
theorem addW_o {w : Wv} {a b c d : Int} {k i x : Nat} (h : i < (w 3).toNat) (hx : x < 4) (hk : k = 16 + x + 4 * i) : addW w a b c d k = w k := by
  subst hk
  exact addW_old w a b c d h x hx
def hldI (v : Wv) (p dp : Int) (T : Nat) (u : Wv) : Prop := WF 999 u ∧ u 3 = 2 * T ∧ (∀ k, k ≠ 3 → k < 16 → u k = v k) ∧
  ∀ i : Nat, i < T → (u (16 + 4 * (2 * i)) = i ∧ u (18 + 4 * (2 * i)) = 0 ∧ u (19 + 4 * (2 * i)) = dp) ∧ (u (16 + 4 * (2 * i + 1)) = i ∧ u (18 + 4 * (2 * i + 1)) = p ∧ u (19 + 4 * (2 * i + 1)) = dp)
theorem hld_step {v u : Wv} {p dp : Int} {T : Nat} (h : hldI v p dp T u) (hT : T < 4) (hTv : (T : Int) < v 2) (hp : 1 ≤ p ∧ p ≤ 30) (hd : 1 ≤ dp ∧ dp ≤ 20) : WF 999 (addW u T 0 0 dp) ∧ addW u T 0 0 dp 3 = 2 * T + 1 ∧ hldI v p dp (T + 1) (addW (addW u T 0 0 dp) T 0 p dp) := by
  obtain ⟨hw, h3, hlo, hi⟩ := h
  have h2 : u 2 = v 2 := hlo 2 (by omega) (by omega)
  have W1 : WF 999 (addW u T 0 0 dp) := hw.add (by omega) (by omega) (by omega) (by omega) (by omega)
  have c1 : addW u T 0 0 dp 3 = 2 * T + 1 := by rw [addW_3, h3]
  have lo1 : ∀ k, k ≠ 3 → k < 16 → addW u T 0 0 dp k = u k := fun k k3 k16 => addW_lo _ _ _ _ _ k3 k16
  have W2 : WF 999 (addW (addW u T 0 0 dp) T 0 p dp) := W1.add (by omega) (by rw [lo1 2 (by omega) (by omega)]; omega) (by omega) (by omega) (by omega)
  refine ⟨W1, c1, W2, by rw [addW_3, c1]; omega, fun k k3 k16 => by rw [addW_lo _ _ _ _ _ k3 k16, lo1 k k3 k16]; exact hlo k k3 k16, fun i hiT => ?_⟩
  have n1 : (u 3).toNat = 2 * T := by omega
  have n2 : (addW u T 0 0 dp 3).toNat = 2 * T + 1 := by omega
  by_cases e : i = T
  · subst e
    obtain ⟨q1, q2, q3, q4⟩ := addW_new u i 0 0 dp
    obtain ⟨r1, r2, r3, r4⟩ := addW_new (addW u i 0 0 dp) i 0 p dp
    rw [n1] at q1 q2 q3 q4
    rw [n2] at r1 r2 r3 r4
    refine ⟨⟨?_, ?_, ?_⟩, r1, r3, r4⟩
    · rw [addW_o (i := 2 * i) (x := 0) (by omega) (by omega) (by omega)]; exact q1
    · rw [addW_o (i := 2 * i) (x := 2) (by omega) (by omega) (by omega)]; exact q3
    · rw [addW_o (i := 2 * i) (x := 3) (by omega) (by omega) (by omega)]; exact q4
  · obtain ⟨⟨s1, s2, s3⟩, t1, t2, t3⟩ := hi i (by omega)
    refine ⟨⟨?_, ?_, ?_⟩, ?_, ?_, ?_⟩
    · rw [addW_o (i := 2 * i) (x := 0) (by omega) (by omega) (by omega), addW_o (i := 2 * i) (x := 0) (by omega) (by omega) (by omega)]; exact s1
    · rw [addW_o (i := 2 * i) (x := 2) (by omega) (by omega) (by omega), addW_o (i := 2 * i) (x := 2) (by omega) (by omega) (by omega)]; exact s2
    · rw [addW_o (i := 2 * i) (x := 3) (by omega) (by omega) (by omega), addW_o (i := 2 * i) (x := 3) (by omega) (by omega) (by omega)]; exact s3
    · rw [addW_o (i := 2 * i + 1) (x := 0) (by omega) (by omega) (by omega), addW_o (i := 2 * i + 1) (x := 0) (by omega) (by omega) (by omega)]; exact t1
    · rw [addW_o (i := 2 * i + 1) (x := 2) (by omega) (by omega) (by omega), addW_o (i := 2 * i + 1) (x := 2) (by omega) (by omega) (by omega)]; exact t2
    · rw [addW_o (i := 2 * i + 1) (x := 3) (by omega) (by omega) (by omega), addW_o (i := 2 * i + 1) (x := 3) (by omega) (by omega) (by omega)]; exact t3
theorem hold6_add {v : Wv} {p dp : Int} {N D : Nat} (hN : v 2 = N) (hN4 : N ≤ 4) (hp : 1 ≤ p ∧ p ≤ 30) (hd : 1 ≤ dp ∧ dp ≤ 20) : ∀ (d T n : Nat) (σ : Hp) (u : Wv), T + d = N → d + 1 ≤ n → hldI v p dp T u → RelW σ 1 u →
    ∃ σ' u', lX6_holds_63 n σ p dp D T = cl (fX6_treesOfPairsReadAsOne σ') (fun r17 σ18 => lX6_holds_114 FU σ18 D r17 1) ∧ hldI v p dp N u' ∧ RelW σ' 1 u' ∧ ∀ s j, ¬ (isW s ∧ j = 1) → σ' s j = σ s j := by
  intro d
  induction d with
  | zero =>
    intro T n σ u hT hn hI hR
    obtain ⟨n, rfl⟩ : ∃ m, n = m + 1 := ⟨n - 1, by omega⟩
    obtain rfl : T = N := by omega
    refine ⟨σ, u, ?_, hI, hR, fun _ _ _ => rfl⟩
    rw [lX6_holds_63_e0, if_pos (by rw [hR.2.2.2.1, hI.2.2.1 2 (by omega) (by omega)]; omega)]
  | succ d ih =>
    intro T n σ u hT hn hI hR
    obtain ⟨n, rfl⟩ : ∃ m, n = m + 1 := ⟨n - 1, by omega⟩
    have e5 : wr ((T : Int) + 1) = ((T + 1 : Nat) : Int) := by rw [wr_of (by omega) (by omega)]; omega
    obtain ⟨W1, c1, I2⟩ := hld_step hI (by omega) (by omega) hp hd
    have h3 := hI.2.1
    obtain ⟨σ1, e1, R1, o1⟩ := addCut6 (a := (T : Int)) (b := 0) (c := 0) (d := dp) hR hI.1 (by omega)
    obtain ⟨σ2, e2, R2, o2⟩ := addCut6 (a := (T : Int)) (b := 0) (c := p) (d := dp) R1 W1 (by omega)
    obtain ⟨σ', u', e3, I3, R3, o3⟩ := ih (T + 1) n σ2 _ (by omega) (by omega) I2 R2
    refine ⟨σ', u', ?_, I3, R3, fun s j hs => by rw [o3 s j hs, o2 s j hs, o1 s j hs]⟩
    rw [lX6_holds_63_e0, if_neg (by rw [hR.2.2.2.1, hI.2.2.1 2 (by omega) (by omega)]; omega), e1, cl_pos, e2, cl_pos, e5]
    exact e3
def hcB (x : Wv) (t : Nat) : Bool := decide (bothW x (2 * t) (2 * t + 1) ∧ apartW x (2 * t) (2 * t + 1) ≤ x 0)
theorem trees6_l {σ : Hp} {x : Wv} {Y : Int} (hR : RelW σ 1 x) (hw : WF Y x) (h23 : x 3 = 2 * x 2) : ∀ (d c n : Nat), (c : Int) + d = x 2 → d + 1 ≤ n → lX6_treesOfPairsReadAsOne_4 n σ (setN c (hcB x) : Nat) c = some ((setN (x 2).toNat (hcB x) : Int), σ) := by
  have h2 := hw.2.2.1
  intro d
  induction d with
  | zero =>
    intro c n hc hn
    obtain ⟨n, rfl⟩ : ∃ m, n = m + 1 := ⟨n - 1, by omega⟩
    rw [lX6_treesOfPairsReadAsOne_4_e0, if_pos (by rw [hR.2.2.2.1]; omega), show (x 2).toNat = c by omega]
  | succ d ih =>
    intro c n hc hn
    obtain ⟨n, rfl⟩ : ∃ m, n = m + 1 := ⟨n - 1, by omega⟩
    have e5 : wr ((c : Int) + 1) = ((c + 1 : Nat) : Int) := by rw [wr_of (by omega) (by omega)]; omega
    have e2 : wr (2 * (c : Int)) = ((2 * c : Nat) : Int) := by rw [wr_of (by omega) (by omega)]; omega
    have e21 : wr (((2 * c : Nat) : Int) + 1) = ((2 * c + 1 : Nat) : Int) := by rw [wr_of (by omega) (by omega)]; omega
    have u := setN_up (p := hcB x) (n := c) (by omega)
    rw [lX6_treesOfPairsReadAsOne_4_e0, if_neg (by rw [hR.2.2.2.1]; omega), e2, e21, one6 hR hw (by omega) (by omega), cl_pos, e5]
    by_cases q : bothW x (2 * c) (2 * c + 1) ∧ apartW x (2 * c) (2 * c + 1) ≤ x 0
    · rw [if_pos q, if_neg (by omega), u.1 (decide_eq_true q)]
      exact ih (c + 1) n (by omega) (by omega)
    · rw [if_neg q, if_pos rfl, u.2 (decide_eq_false q)]
      exact ih (c + 1) n (by omega) (by omega)
theorem trees6 {σ : Hp} {x : Wv} {Y : Int} (hR : RelW σ 1 x) (hw : WF Y x) (h23 : x 3 = 2 * x 2) : fX6_treesOfPairsReadAsOne σ = some ((setN (x 2).toNat (hcB x) : Int), σ) := by
  have h2 := hw.2.2.1
  unfold fX6_treesOfPairsReadAsOne
  exact trees6_l hR hw h23 (x 2).toNat 0 FU (by omega) (by rw [FU_eq]; omega)
/-- both marks on tree t, y years on -/
def hpP (v : Wv) (p dp : Int) (y t : Nat) : Prop := 0 < clip dp (los (v (4 + 3 * t)) (v (6 + 3 * t)) y (v 1) (v (5 + 3 * t))) ∧ p * grt (v (4 + 3 * t)) (v (6 + 3 * t)) y (v 1) (v (5 + 3 * t)) / 60 ≤ v 0
theorem hp_iff {v u : Wv} {p dp : Int} {N y t : Nat} (hI : hldI v p dp N u) (hN : v 2 = N) (hp : 1 ≤ p ∧ p ≤ 30) (ht : t < N) : (bothW (yrs y u) (2 * t) (2 * t + 1) ∧ apartW (yrs y u) (2 * t) (2 * t + 1) ≤ yrs y u 0) ↔ hpP v p dp y t := by
  obtain ⟨hw, h3, hlo, hi⟩ := hI
  have h2u : u 2 = v 2 := hlo 2 (by omega) (by omega)
  have h24 := hw.2.2.1
  obtain ⟨⟨s1, s2, s3⟩, t1, t2, t3⟩ := hi t ht
  have a1 := yrs_cut y u (2 * t) 0 (by omega)
  have a2 := yrs_cut y u (2 * t) 2 (by omega)
  have b1 := yrs_cut y u (2 * t + 1) 0 (by omega)
  have b2 := yrs_cut y u (2 * t + 1) 2 (by omega)
  rw [Nat.add_zero] at a1 b1
  rw [show 16 + 4 * (2 * t) + 2 = 18 + 4 * (2 * t) by omega] at a2
  rw [show 16 + 4 * (2 * t + 1) + 2 = 18 + 4 * (2 * t + 1) by omega] at b2
  have d1 := yrs_depth y (c := 2 * t) (t := t) hw (by omega) s1
  have d2 := yrs_depth y (c := 2 * t + 1) (t := t) hw (by omega) t1
  have g1 := yrs_girth y (t := t) hw (by omega)
  have y0 := yrs_lo y u (k := 0) (by omega) (by omega)
  rw [hlo (4 + 3 * t) (by omega) (by omega), hlo (6 + 3 * t) (by omega) (by omega), hlo (5 + 3 * t) (by omega) (by omega), hlo 1 (by omega) (by omega)] at d1 d2 g1
  have eb : btw 0 p = p := by
    unfold btw
    repeat' split
    all_goals omega
  unfold bothW apartW hpP
  rw [a1, b1, s1, t1, a2, b2, s2, t2, d1, d2, s3, t3, Int.toNat_natCast, g1, eb, y0, hlo 0 (by omega) (by omega)]
  exact ⟨fun z => ⟨z.1.2.1, z.2⟩, fun z => ⟨⟨rfl, z.1, z.1⟩, z.2⟩⟩
theorem hp_anti {v : Wv} {Y : Int} {p dp : Int} {y t : Nat} (hw : WF Y v) (ht : (t : Int) < v 2) (hp : 1 ≤ p) (h : hpP v p dp (y + 1) t) : hpP v p dp y t := by
  obtain ⟨b1, b2, b3⟩ := hw.2.2.2.2.1 t ht
  have h1 := los_up (v (4 + 3 * t)) (v (6 + 3 * t)) y (v 1) (v (5 + 3 * t))
  have h2 := grt_up (v (4 + 3 * t)) b3.1 b3.2 y (v 1) (v (5 + 3 * t)) b2.1 b2.2
  obtain ⟨c1, c2⟩ := h
  refine ⟨?_, ?_⟩
  · unfold clip at c1 ⊢
    split at c1
    · omega
    · rw [if_neg (by omega)]; omega
  · have h3 := Int.mul_le_mul_of_nonneg_left h2 (show 0 ≤ p by omega)
    omega
noncomputable def hpB (v : Wv) (p dp : Int) (y t : Nat) : Bool := @decide (hpP v p dp y t) (Classical.propDecidable _)
theorem hpB_1 {v : Wv} {p dp : Int} {y t : Nat} : hpB v p dp y t = true ↔ hpP v p dp y t := @decide_eq_true_iff _ (Classical.propDecidable _)
theorem hcB_eq {v u : Wv} {p dp : Int} {N y : Nat} (hI : hldI v p dp N u) (hN : v 2 = N) (hp : 1 ≤ p ∧ p ≤ 30) : setN N (hcB (yrs y u)) = setN N (hpB v p dp y) := by
  refine setN_congr N (fun t ht => ?_)
  have h := hp_iff (y := y) hI hN hp ht
  rw [Bool.eq_iff_iff, hpB_1, ← h]
  unfold hcB
  rw [decide_eq_true_iff]
theorem hold6_l {v u : Wv} {p dp : Int} {N D : Nat} (hI : hldI v p dp N u) (hwv : WF 999 v) (hN : v 2 = N) (hN4 : N ≤ 4) (hp : 1 ≤ p ∧ p ≤ 30) (hD : D ≤ 50) : ∀ (d c n : Nat) (σ : Hp), c + d = D → d + 1 ≤ n → RelW σ 1 (yrs c u) →
    ∃ σ' x, lX6_holds_114 n σ D (setN N (hpB v p dp c) : Nat) ((c + 1 : Nat) : Int) = some ((setN N (hpB v p dp D) : Int), σ') ∧ RelW σ' 1 x ∧ ∀ s j, ¬ (isW s ∧ j = 1) → σ' s j = σ s j := by
  intro d
  induction d with
  | zero =>
    intro c n σ hc hn hR
    obtain ⟨n, rfl⟩ : ∃ m, n = m + 1 := ⟨n - 1, by omega⟩
    obtain rfl : c = D := by omega
    exact ⟨σ, _, by rw [lX6_holds_114_e0, if_pos (by omega)], hR, fun _ _ _ => rfl⟩
  | succ d ih =>
    intro c n σ hc hn hR
    obtain ⟨n, rfl⟩ : ∃ m, n = m + 1 := ⟨n - 1, by omega⟩
    have e5 : wr (((c + 1 : Nat) : Int) + 1) = ((c + 1 + 1 : Nat) : Int) := by rw [wr_of (by omega) (by omega)]; omega
    have W := yrs_WF c hI.1
    obtain ⟨σ1, e1, R1, o1⟩ := year5_sp W (by omega) hR
    rw [← yrs_succ] at R1
    have W1 := yrs_WF (c + 1) hI.1
    have x2 : yrs (c + 1) u 2 = N := by rw [yrs_lo (c + 1) u (by omega) (by omega), hI.2.2.1 2 (by omega) (by omega), hN]
    have x3 : yrs (c + 1) u 3 = 2 * yrs (c + 1) u 2 := by rw [x2, yrs_lo (c + 1) u (by omega) (by omega), hI.2.1]
    have et := trees6 R1 W1 x3
    rw [x2, Int.toNat_natCast, hcB_eq (y := c + 1) hI hN hp] at et
    have hlt := setN_lt31 (hpB v p dp (c + 1)) (n := N) (by omega)
    have ea : qand (setN N (hpB v p dp c) : Nat) (setN N (hpB v p dp (c + 1)) : Nat) = ((setN N (hpB v p dp (c + 1)) : Nat) : Int) := by
      rw [qandN hlt]
      congr 1
      apply Nat.eq_of_testBit_eq
      intro i
      rw [Nat.testBit_and, setN_bit, setN_bit]
      by_cases hi : i < N
      · rw [decide_eq_true hi, Bool.true_and, Bool.true_and]
        cases q : hpB v p dp (c + 1) i
        · rw [Bool.and_false]
        · rw [hpB_1.mpr (hp_anti hwv (by omega) hp.1 (hpB_1.mp q)), Bool.and_true]
      · rw [decide_eq_false hi, Bool.false_and, Bool.false_and, Bool.false_and]
    obtain ⟨σ', x, e2, R2, o2⟩ := ih (c + 1) n σ1 (by omega) (by omega) R1
    refine ⟨σ', x, ?_, R2, fun s j hs => (o2 s j hs).trans (o1 s j hs)⟩
    rw [lX6_holds_114_e0, if_neg (by omega), e1, cl_pos, et, cl_pos, ea, e5]
    exact e2
theorem hold7_l {τ : Hp} {w v : Wv} {p dp : Int} {N D : Nat} (e27 : τ 27 0 = w) (e32 : τ 32 0 = yrs D v) (hag : ∀ k, k < 16 → v k = w k) (hw : WF 999 w) (hwv : WF 999 v) (hN : w 2 = N) (hp : 1 ≤ p ∧ p ≤ 30) (hd : 1 ≤ dp ∧ dp ≤ 20) (hD : D ≤ 50) : ∀ (d c n : Nat), c + d = N → 2 * d + 1 ≤ n →
    lX7_holds_51 n 0 τ p dp D (setN c (hpB v p dp D) : Nat) c 0 = some ((setN N (hpB v p dp D) : Int), τ) := by
  have h2 := hw.2.2.1
  intro d
  induction d with
  | zero =>
    intro c n hc hn
    obtain ⟨n, rfl⟩ : ∃ m, n = m + 1 := ⟨n - 1, by omega⟩
    obtain rfl : c = N := by omega
    rw [lX7_holds_51_e0, e27, if_pos (by omega)]
  | succ d ih =>
    intro c n hc hn
    obtain ⟨n, rfl⟩ : ∃ m, n = m + 1 + 1 := ⟨n - 2, by omega⟩
    have e5 : wr ((c : Int) + 1) = ((c + 1 : Nat) : Int) := by rw [wr_of (by omega) (by omega)]; omega
    have u := setN_up (p := hpB v p dp D) (n := c) (by omega)
    have hv2 : (c : Int) < v 2 := by rw [hag 2 (by omega)]; omega
    have g1 := yrs_girth D (t := c) hwv hv2
    obtain ⟨b1, b2, b3⟩ := hwv.2.2.2.2.1 c hv2
    have hg := grt_in (v (4 + 3 * c)) b3.1 b3.2 D (v 1) (v (5 + 3 * c)) b2.1 b2.2
    have hm := mul_in (r := p) (g := grt (v (4 + 3 * c)) (v (6 + 3 * c)) D (v 1) (v (5 + 3 * c))) (by omega) (by omega)
    have iht := ih (c + 1) n (by omega) (by omega)
    have hw0 : v 0 = w 0 := hag 0 (by omega)
    rw [lX7_holds_51_e0, e27, if_neg (by omega), (wr4u (by omega)).1, gd_pos (by omega), Int.toNat_natCast, e32, g1, wr_of (by omega) (by omega), qdiv_of hm.1 (by omega) (by omega)]
    by_cases q1 : w 0 < p * grt (v (4 + 3 * c)) (v (6 + 3 * c)) D (v 1) (v (5 + 3 * c)) / 60
    · rw [if_pos q1, lX7_holds_51_e1, if_pos rfl, qor0 (setN_lt31 _ (by omega)), u.2 (by
        cases q : hpB v p dp D c
        · rfl
        · have := (hpB_1.mp q).2; omega), e5]
      exact iht
    · rw [if_neg q1, lX7_holds_51_e1, if_neg (by omega), depthIn7 e27 hw (by omega) (by omega) (by omega) (by omega), cl_pos, e5]
      rw [← hag (4 + 3 * c) (by omega), ← hag (6 + 3 * c) (by omega), ← hag (5 + 3 * c) (by omega), ← hag 1 (by omega)]
      by_cases q2 : clip dp (los (v (4 + 3 * c)) (v (6 + 3 * c)) D (v 1) (v (5 + 3 * c))) ≤ 0
      · rw [if_pos q2, qor0 (setN_lt31 _ (by omega)), u.2 (by
          cases q : hpB v p dp D c
          · rfl
          · have := (hpB_1.mp q).1; omega)]
        exact iht
      · rw [if_neg q2, u.1 (hpB_1.mpr ⟨by omega, by omega⟩)]
        exact iht
theorem ok_holds {σ : Hp} (h : Sim σ) {a b c : Int} : Ok (fun τ => fX6_holds τ a b c) (fun τ => fX7_holds τ a b c) σ := by
  obtain ⟨hR, hw⟩ := h.2.2.1.1
  have h2 := hw.2.2.1
  by_cases hz : 0 < σ 27 0 0
  case neg =>
    refine Ok.same (r := -1000002) h ?_ ?_
    · simp only [fX6_holds]; rw [if_pos ((told0 hR).mpr hz)]
    · simp only [fX7_holds]; rw [if_pos (isWood7.mpr hz)]
  have hz6 : ¬ σ 5 0 7 = 0 := fun z => (told0 hR).mp z hz
  by_cases ha : 1 ≤ a ∧ a ≤ 30
  case neg =>
    refine Ok.same (r := -1000001) h ?_ ?_
    · simp only [fX6_holds]; rw [if_neg hz6]
      by_cases q : a < 1
      · rw [if_pos q]
      · rw [if_neg q, if_pos (by omega)]
    · simp only [fX7_holds]; rw [if_neg (fun z => isWood7.mp z hz), if_pos (in_0.mpr ha)]
  by_cases hb : 1 ≤ b ∧ b ≤ 20
  case neg =>
    refine Ok.same (r := -1000001) h ?_ ?_
    · simp only [fX6_holds]; rw [if_neg hz6, if_neg (by omega), if_neg (by omega), if_pos (depth6_0.mpr hb)]
    · simp only [fX7_holds]; rw [if_neg (fun z => isWood7.mp z hz), if_neg (in_1 ha), if_pos (in_0.mpr hb)]
  by_cases hc : 0 ≤ c ∧ c ≤ 50
  case neg =>
    refine Ok.same (r := -1000001) h ?_ ?_
    · simp only [fX6_holds]; rw [if_neg hz6, if_neg (by omega), if_neg (by omega), if_neg (fun z => depth6_0.mp z hb), if_pos (fore6_0.mpr hc)]
    · simp only [fX7_holds]; rw [if_neg (fun z => isWood7.mp z hz), if_neg (in_1 ha), if_neg (in_1 hb), if_pos (far7_0.mpr hc)]
  obtain ⟨D, rfl⟩ : ∃ k : Nat, c = k := ⟨c.toNat, by omega⟩
  obtain ⟨N, hN⟩ : ∃ N : Nat, σ 27 0 2 = N := ⟨(σ 27 0 2).toNat, by omega⟩
  obtain ⟨v, hv⟩ : ∃ v, v = foreV σ := ⟨_, rfl⟩
  have hwv : WF 999 v := by rw [hv]; exact foreV_WF h
  have hag : ∀ k, k < 16 → v k = σ 27 0 k := fun k hk => by rw [hv]; exact (foreV_agr σ k (by omega)).symm
  have hNv : v 2 = N := by rw [hag 2 (by omega)]; exact hN
  obtain ⟨σ1, e1, o1, R1⟩ := fore6 h
  rw [← hv] at R1
  obtain ⟨σ2, hσ2⟩ : ∃ σ2, σ2 = hup σ1 5 1 11 0 := ⟨_, rfl⟩
  have R2 : RelW σ2 1 (up1 v 3 0) := by rw [hσ2]; exact R1.cuts0
  have I0 : hldI v a b 0 (up1 v 3 0) := ⟨hwv.cuts0, by rw [up1_at]; rfl, fun k k3 _ => up1_ne k3, fun i hi => by omega⟩
  obtain ⟨σ3, u, e3, I3, R3, o3⟩ := hold6_add (D := D) hNv (by omega) ha hb N 0 FU σ2 (up1 v 3 0) (by omega) (by rw [FU_eq]; omega) I0 R2
  have u2 : u 2 = N := by rw [I3.2.2.1 2 (by omega) (by omega), hNv]
  have et := trees6 R3 I3.1 (by rw [u2]; exact I3.2.1)
  have hce : setN N (hcB u) = setN N (hpB v a b 0) := hcB_eq (y := 0) I3 hNv ha
  rw [u2, Int.toNat_natCast, hce] at et
  obtain ⟨σ4, x, e4, R4, o4⟩ := hold6_l I3 hwv hNv (by omega) ha (show D ≤ 50 by omega) D 0 FU σ3 (by omega) (by rw [FU_eq]; omega) R3
  have e4' : lX6_holds_114 FU σ3 D (setN N (hpB v a b 0) : Nat) 1 = some ((setN N (hpB v a b D) : Int), σ4) := e4
  have e3' : lX6_holds_63 FU σ2 a b D 0 = cl (fX6_treesOfPairsReadAsOne σ3) (fun r17 σ18 => lX6_holds_114 FU σ18 D r17 1) := e3
  have off : ∀ s j, ¬ (isW s ∧ j = 1) → σ4 s j = σ s j := fun s j hs => by
    rw [o4 s j hs, o3 s j hs, hσ2, hup_row, srow_ne (fun z => hs ⟨by rw [z.1]; exact Or.inl rfl, z.2⟩), o1 s j hs]
  have e27 : σ4 27 0 = σ 27 0 := off 27 0 (fun z => nw27 z.1)
  have e32 : σ4 32 0 = σ 32 0 := off 32 0 (fun z => nw32 z.1)
  have et7 := tries7 h e27 e32 (d := D) (by omega)
  rw [← hv] at et7
  have e7 := hold7_l (τ := srow σ4 32 0 (yrs D v)) (w := σ 27 0) (v := v) (p := a) (dp := b) (N := N) (D := D) (by rw [srow_ne (by omega)]; exact e27) (srow_at _ _ _ _) hag hw hwv hN ha hb (by omega) N 0 FU (by omega) (by rw [FU_eq]; omega)
  have e7' : lX7_holds_51 FU 0 (srow σ4 32 0 (yrs D v)) a b D 0 0 0 = some ((setN N (hpB v a b D) : Int), srow σ4 32 0 (yrs D v)) := e7
  refine ⟨(setN N (hpB v a b D) : Int), σ4, srow σ4 32 0 (yrs D v), ?_, ?_, (h.w1 off R4).t32 _⟩
  · simp only [fX6_holds]
    rw [if_neg hz6, if_neg (by omega), if_neg (by omega), if_neg (fun z => depth6_0.mp z hb), if_neg (fun z => fore6_0.mp z hc), e1, cl_pos]
    simp only [sq]
    rw [← hσ2, e3', et, cl_pos, e4']
  · simp only [fX7_holds]
    rw [if_neg (fun z => isWood7.mp z (by rw [e27]; exact hz)), if_neg (in_1 ha), if_neg (in_1 hb), if_neg (fun z => far7_0.mp z hc), et7, cl_pos, e7']
