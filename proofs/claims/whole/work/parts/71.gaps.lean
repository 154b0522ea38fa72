/-! gaps, which -/
theorem goes_l {r k i N fld s1 : Nat} {u : Wv} {it : Nat → Int} (ha : k < alen s1) (hf : ∀ (τ : Hp) (y : Nat), RelW τ 1 (yrs y u) → τ s1 1 k = yrs y u fld) (hw : WF 999 u) (hi : i + N ≤ 40) (hN : N ≤ 16) : ∀ (d y n : Nat) (σ : Hp), y + d = N → d + 1 ≤ n → RelW σ 1 (yrs y u) → (∀ x, x < 40 → σ 11 r x = it x) →
    ∃ res σ' x, lX6_goesSo_3 n σ s1 1 r k i N y = some (res, σ') ∧ (res = 0 ∨ res = 1) ∧ (res = 1 ↔ ∀ z, y ≤ z → z < N → yrs (z + 1) u fld = it (i + z)) ∧ RelW σ' 1 x ∧ ∀ s j, ¬ (isW s ∧ j = 1) → σ' s j = σ s j := by
  intro d
  induction d with
  | zero =>
    intro y n σ hy hn hR hit
    obtain ⟨n, rfl⟩ : ∃ m, n = m + 1 := ⟨n - 1, by omega⟩
    exact ⟨1, σ, _, by rw [lX6_goesSo_3_e0, if_pos (by omega)], Or.inr rfl, ⟨fun _ z h1 h2 => by omega, fun _ => rfl⟩, hR, fun _ _ _ => rfl⟩
  | succ d ih =>
    intro y n σ hy hn hR hit
    obtain ⟨n, rfl⟩ : ∃ m, n = m + 1 := ⟨n - 1, by omega⟩
    have e5 : wr ((y : Int) + 1) = ((y + 1 : Nat) : Int) := by rw [wr_of (by omega) (by omega)]; omega
    have e4 : wr ((i : Int) + (y : Int)) = ((i + y : Nat) : Int) := by rw [wr_of (by omega) (by omega)]; omega
    obtain ⟨σ1, e1, R1, o1⟩ := year5_sp (yrs_WF y hw) (by omega) hR
    rw [← yrs_succ] at R1
    have n11 : ¬ isW 11 := fun z => by rcases z with q | q <;> omega
    have q1 := hf σ1 (y + 1) R1
    have q2 : σ1 11 r (i + y) = it (i + y) := by rw [o1 11 r (fun z => n11 z.1)]; exact hit (i + y) (by omega)
    rw [lX6_goesSo_3_e0, if_neg (by omega), e1, cl_pos, gd_pos (by omega), e4, gd_pos (by omega), Int.toNat_natCast, Int.toNat_natCast, q1, q2, e5]
    by_cases q : yrs (y + 1) u fld = it (i + y)
    · rw [if_pos q]
      obtain ⟨res, σ', x, e2, r1, i1, R2, o2⟩ := ih (y + 1) n σ1 (by omega) (by omega) R1 (fun x hx => by rw [o1 11 r (fun z => n11 z.1)]; exact hit x hx)
      refine ⟨res, σ', x, e2, r1, ?_, R2, fun s j hs => (o2 s j hs).trans (o1 s j hs)⟩
      rw [i1]
      constructor
      · intro h z h1 h2
        by_cases e : z = y
        · subst e; exact q
        · exact h z (by omega) h2
      · exact fun h z h1 h2 => h z (by omega) h2
    · rw [if_neg q]
      exact ⟨0, σ1, _, rfl, Or.inl rfl, ⟨fun z => absurd z (by decide), fun h => absurd (h y (Nat.le_refl _) (by omega)) q⟩, R1, o1⟩
theorem goes6 {r k i N fld s1 : Nat} {u : Wv} {it : Nat → Int} {σ : Hp} (ha : k < alen s1) (hf : ∀ (τ : Hp) (y : Nat), RelW τ 1 (yrs y u) → τ s1 1 k = yrs y u fld) (hw : WF 999 u) (hi : i + N ≤ 40) (hN : N ≤ 16) (hR : RelW σ 1 u) (hit : ∀ x, x < 40 → σ 11 r x = it x) :
    ∃ res σ' x, fX6_goesSo σ s1 1 k r i N = some (res, σ') ∧ (res = 0 ∨ res = 1) ∧ (res = 1 ↔ ∀ z, z < N → yrs (z + 1) u fld = it (i + z)) ∧ RelW σ' 1 x ∧ ∀ s j, ¬ (isW s ∧ j = 1) → σ' s j = σ s j := by
  obtain ⟨res, σ', x, e2, r1, i1, R2, o2⟩ := goes_l ha hf hw hi hN N 0 FU σ (by omega) (by rw [FU_eq]; omega) hR hit
  refine ⟨res, σ', x, e2, r1, ?_, R2, o2⟩
  rw [i1]
  exact ⟨fun h z hz => h z (by omega) hz, fun h z _ hz => h z hz⟩
noncomputable def cB (P : Nat → Prop) (i : Nat) : Bool := @decide (P i) (Classical.propDecidable _)
theorem cB_1 {P : Nat → Prop} {i : Nat} : cB P i = true ↔ P i := @decide_eq_true_iff _ (Classical.propDecidable _)
theorem cB_0 {P : Nat → Prop} {i : Nat} (h : ¬ P i) : cB P i = false := by
  cases q : cB P i
  · rfl
  · exact absurd (cB_1.mp q) h
theorem RelW.field {σ : Hp} {j s t f : Nat} {w : Wv} {Y v : Int} (hw : WF Y w) (ht4 : t < 4) (hs : (s = 13 ∧ f = 4 + 3 * t) ∨ (s = 15 ∧ f = 6 + 3 * t)) (h : RelW σ j w) : RelW (hup σ s j t v) j (up1 w f v) := by
  obtain ⟨a1, a2, a3, a4, a5, a6, a7⟩ := h
  have hw2 := hw.2.2.1
  unfold RelW
  rw [up1_ne (x := 0) (by omega), up1_ne (x := 1) (by omega), up1_ne (x := 2) (by omega), up1_ne (x := 3) (by omega)]
  rw [hup_s (s' := 5) (by omega), hup_s (s' := 16) (by omega), hup_s (s' := 17) (by omega), hup_s (s' := 18) (by omega), hup_s (s' := 19) (by omega), hup_s (s' := 14) (by omega)]
  refine ⟨a1, a2, a3, a4, a5, fun t' ht' => ?_, fun c hc => ?_⟩
  · obtain ⟨b1, b2, b3⟩ := a6 t' ht'
    refine ⟨?_, by rw [up1_ne (by omega)]; exact b2, ?_⟩
    · rcases hs with ⟨rfl, rfl⟩ | ⟨rfl, rfl⟩
      · by_cases e : t' = t
        · subst e; rw [hup_at, up1_at]
        · rw [hup_k e, up1_ne (by omega)]; exact b1
      · rw [hup_s (by omega), up1_ne (by omega)]; exact b1
    · rcases hs with ⟨rfl, rfl⟩ | ⟨rfl, rfl⟩
      · rw [hup_s (by omega), up1_ne (by omega)]; exact b3
      · by_cases e : t' = t
        · subst e; rw [hup_at, up1_at]
        · rw [hup_k e, up1_ne (by omega)]; exact b3
  · rw [up1_ne (by omega), up1_ne (by omega), up1_ne (by omega), up1_ne (by omega)]
    exact a7 c hc
def gpP (w : Wv) (t : Nat) (N : Nat) (I : Nat → Int) (dp : Nat) : Prop := 1 ≤ dp ∧ ∀ z, z < N → clip dp (los (w (4 + 3 * t)) (w (6 + 3 * t)) (z + 1) (w 1) (w (5 + 3 * t))) = I z
theorem gaps6_l {w : Wv} {it : Nat → Int} {c t r i N : Nat} (hw : WF 999 w) (hc : (c : Int) < w 3) (ht : w (16 + 4 * c) = t) (hr : r < 8) (hi : i + N ≤ 40) (hN : N ≤ 16) : ∀ (d dp n : Nat) (σ : Hp), dp + d = 21 → 1 ≤ dp → d + 1 ≤ n → RelW σ 0 w → (∀ x, x < 40 → σ 11 r x = it x) → (∃ x, RelW σ 1 x) ∨ (σ 5 1 7 = 0 ∨ σ 5 1 7 = 1) →
    ∃ σ', lX6_gaps_61 n σ c r i N (setN dp (cB (gpP w t N (fun z => it (i + z)))) : Nat) dp = some ((setN 21 (cB (gpP w t N (fun z => it (i + z)))) : Int), hup σ' 6 0 9 0) ∧ (σ' 5 1 7 = 0 ∨ σ' 5 1 7 = 1) ∧ ∀ s j, ¬ (isW s ∧ j = 1) → σ' s j = σ s j := by
  have h3 := hw.2.2.2.1
  have htw := (hw.2.2.2.2.2 c hc).1
  have h2 := hw.2.2.1
  intro d
  induction d with
  | zero =>
    intro dp n σ hd hd1 hn hR hit hx
    obtain ⟨n, rfl⟩ : ∃ m, n = m + 1 := ⟨n - 1, by omega⟩
    obtain rfl : dp = 21 := by omega
    refine ⟨σ, ?_, ?_, fun _ _ _ => rfl⟩
    · rw [lX6_gaps_61_e0, if_pos (by omega)]
      rfl
    · rcases hx with ⟨x, q⟩ | q
      · exact q.told
      · exact q
  | succ d ih =>
    intro dp n σ hd hd1 hn hR hit hx
    obtain ⟨n, rfl⟩ : ∃ m, n = m + 1 := ⟨n - 1, by omega⟩
    have e5 : wr ((dp : Int) + 1) = ((dp + 1 : Nat) : Int) := by rw [wr_of (by omega) (by omega)]; omega
    have n11 : ¬ isW 11 := fun z => by rcases z with q | q <;> omega
    obtain ⟨σ1, e1, o1, R1⟩ := become_rel (j0 := 1) hR hw
    have R2 := RelW_depth (c := c) (v := (dp : Int)) hw R1
    have W2 : WF 999 (up1 w (19 + 4 * c) dp) := hw.depth (by omega) (by omega)
    have o2 : ∀ s j, ¬ (isW s ∧ j = 1) → hup σ1 19 1 c dp s j = σ s j := fun s j hs => by
      rw [hup_row, srow_ne (fun z => hs ⟨by rw [z.1]; exact Or.inr (by omega), z.2⟩), o1 s j hs]
    have c3 : up1 w (19 + 4 * c) dp 3 = w 3 := up1_ne (by omega)
    obtain ⟨res, σ3, x, e3, r3, i3, R3, o3⟩ := goes6 (s1 := 19) (k := c) (fld := 19 + 4 * c) (r := r) (i := i) (N := N) (it := it) (show c < 8 by omega) (fun τ y hτ => (hτ.2.2.2.2.2.2 c (by rw [yrs_lo y _ (by omega) (by omega), c3]; exact hc)).2.2.2) W2 hi hN R2 (fun x hx => by rw [o2 11 r (fun z => n11 z.1)]; exact hit x hx)
    have off : ∀ s j, ¬ (isW s ∧ j = 1) → σ3 s j = σ s j := fun s j hs => (o3 s j hs).trans (o2 s j hs)
    have hp : res = 1 ↔ gpP w t N (fun z => it (i + z)) dp := by
      rw [i3]
      have hd : ∀ z, yrs (z + 1) (up1 w (19 + 4 * c) dp) (19 + 4 * c) = clip dp (los (w (4 + 3 * t)) (w (6 + 3 * t)) (z + 1) (w 1) (w (5 + 3 * t))) := fun z => by
        have := yrs_depth (z + 1) (c := c) (t := t) W2 (by rw [c3]; exact hc) (by rw [up1_ne (by omega)]; exact ht)
        rw [up1_at, up1_ne (by omega), up1_ne (by omega), up1_ne (by omega), up1_ne (by omega)] at this
        exact this
      exact ⟨fun h => ⟨hd1, fun z hz => by rw [← hd z]; exact h z hz⟩, fun h z hz => by rw [hd z]; exact h.2 z hz⟩
    obtain ⟨σ', e4, t4, o4⟩ := ih (dp + 1) n σ3 (by omega) (by omega) (by omega) (hR.cg (fun s hs => off s 0 (fun z => by omega))) (fun x hx => by rw [off 11 r (fun z => n11 z.1)]; exact hit x hx) (Or.inl ⟨x, R3⟩)
    refine ⟨σ', ?_, t4, fun s j hs => (o4 s j hs).trans (off s j hs)⟩
    have u := setN_up (p := cB (gpP w t N (fun z => it (i + z)))) (n := dp) (by omega)
    rw [lX6_gaps_61_e0, if_neg (by omega), e1, cl_pos, gd_pos (by omega), Int.toNat_natCast]
    simp only [sq]
    rw [gd_pos (by omega), Int.toNat_natCast, e3, cl_pos, e5]
    by_cases q : gpP w t N (fun z => it (i + z)) dp
    · rw [if_neg (by have := hp.mpr q; omega), u.1 (cB_1.mpr q)]
      exact e4
    · rw [if_pos (by rcases r3 with z | z; exact z; exact absurd (hp.mp z) q), u.2 (cB_0 q)]
      exact e4
theorem gaps7_0 {σ : Hp} {c r i N v6 M : Nat} (hN : N ≤ 16) (hM : M < 2 ^ 31) {res : Option (Int × Hp)} {K : Nat} (hk : ∀ m, K ≤ m → lX7_gaps_66 m 0 σ c r i N M (wr ((v6 : Int) + 1)) 0 0 = res) : ∀ (d z n : Nat), z + d = N → K + d + 1 ≤ n →
    lX7_gaps_66 n 1 σ c r i N M v6 0 z = res := by
  intro d
  induction d with
  | zero =>
    intro z n hz hn
    obtain ⟨n, rfl⟩ : ∃ m, n = m + 1 := ⟨n - 1, by omega⟩
    rw [lX7_gaps_66_e1, if_pos (by omega), if_pos rfl, qor0 hM]
    exact hk n (by omega)
  | succ d ih =>
    intro z n hz hn
    obtain ⟨n, rfl⟩ : ∃ m, n = m + 1 := ⟨n - 1, by omega⟩
    have e5 : wr ((z : Int) + 1) = ((z + 1 : Nat) : Int) := by rw [wr_of (by omega) (by omega)]; omega
    rw [lX7_gaps_66_e1, if_neg (by omega), if_pos rfl, e5]
    exact ih (z + 1) n (by omega) (by omega)
theorem gaps7_1 {σ : Hp} {w : Wv} {c t r i N v6 M : Nat} {P : Prop} (e27 : σ 27 0 = w) (hw : WF 999 w) (hc : (c : Int) < w 3) (ht : w (16 + 4 * c) = t) (hr : r < 8) (hi : i + N ≤ 40) (hN : N ≤ 16) (hv : v6 ≤ 20) (hM : M < 2 ^ 31) {res : Option (Int × Hp)} {K : Nat}
    (hk0 : ¬ P → ∀ m, K ≤ m → lX7_gaps_66 m 0 σ c r i N M (wr ((v6 : Int) + 1)) 0 0 = res) (hk1 : P → ∀ m, K ≤ m → lX7_gaps_66 m 0 σ c r i N (qor M (qshl 1 v6)) (wr ((v6 : Int) + 1)) 0 0 = res) : ∀ (d z n : Nat), z + d = N → K + d + 1 ≤ n →
    (P ↔ ∀ x, z ≤ x → x < N → clip v6 (los (w (4 + 3 * t)) (w (6 + 3 * t)) (x + 1) (w 1) (w (5 + 3 * t))) = σ 24 0 (40 * r + (i + x))) → lX7_gaps_66 n 1 σ c r i N M v6 1 z = res := by
  have h3 := hw.2.2.2.1
  have htw := (hw.2.2.2.2.2 c hc).1
  intro d
  induction d with
  | zero =>
    intro z n hz hn hP
    obtain ⟨n, rfl⟩ : ∃ m, n = m + 1 := ⟨n - 1, by omega⟩
    rw [lX7_gaps_66_e1, if_pos (by omega), if_neg (by omega)]
    exact hk1 (hP.mpr (fun x h1 h2 => by omega)) n (by omega)
  | succ d ih =>
    intro z n hz hn hP
    obtain ⟨n, rfl⟩ : ∃ m, n = m + 1 := ⟨n - 1, by omega⟩
    have e5 : wr ((z : Int) + 1) = ((z + 1 : Nat) : Int) := by rw [wr_of (by omega) (by omega)]; omega
    have e6 : wr (wr (wr (40 * (r : Int)) + (i : Int)) + (z : Int)) = ((40 * r + (i + z) : Nat) : Int) := by rw [wr_of (x := 40 * (r : Int)) (by omega) (by omega), wr_of (x := 40 * (r : Int) + i) (by omega) (by omega), wr_of (by omega) (by omega)]; omega
    rw [lX7_gaps_66_e1, if_neg (by omega), if_neg (by omega), wr16c (by omega), gd_pos (by omega), Int.toNat_natCast, e27, ht, e5, depthIn7 e27 hw (by omega) (by omega) (by omega) (by omega), cl_pos, e6, gd_pos (by omega), Int.toNat_natCast]
    by_cases q : clip v6 (los (w (4 + 3 * t)) (w (6 + 3 * t)) (z + 1) (w 1) (w (5 + 3 * t))) = σ 24 0 (40 * r + (i + z))
    · rw [if_pos q]
      refine ih (z + 1) n (by omega) (by omega) (hP.trans ⟨fun h x h1 h2 => h x (by omega) h2, fun h x h1 h2 => ?_⟩)
      by_cases e : x = z
      · subst e; exact q
      · exact h x (by omega) h2
    · rw [if_neg q]
      exact gaps7_0 hN hM (hk0 (fun hp => q (hP.mp hp z (Nat.le_refl _) (by omega)))) d (z + 1) n (by omega) (by omega)
theorem gaps7_l {σ : Hp} {w : Wv} {it : Nat → Int} {c t r i N : Nat} (e27 : σ 27 0 = w) (hw : WF 999 w) (hc : (c : Int) < w 3) (ht : w (16 + 4 * c) = t) (hr : r < 8) (hi : i + N ≤ 40) (hN : N ≤ 16) (hit : ∀ x, x < 40 → σ 24 0 (40 * r + x) = it x) : ∀ (d dp n : Nat), dp + d = 21 → 1 ≤ dp → 30 * d + 1 ≤ n →
    lX7_gaps_66 n 0 σ c r i N (setN dp (cB (gpP w t N (fun z => it (i + z)))) : Nat) dp 0 0 = some ((setN 21 (cB (gpP w t N (fun z => it (i + z)))) : Int), hup σ 7 0 4 0) ∧ lX7_gaps_66 n 0 σ c r i N (setN dp (cB (gpP w t N (fun z => it (i + z)))) : Nat) dp 1 0 = some ((setN 21 (cB (gpP w t N (fun z => it (i + z)))) : Int), hup σ 7 0 4 0) := by
  intro d
  induction d with
  | zero =>
    intro dp n hd hd1 hn
    obtain ⟨n, rfl⟩ : ∃ m, n = m + 1 := ⟨n - 1, by omega⟩
    obtain rfl : dp = 21 := by omega
    refine ⟨?_, ?_⟩
    · rw [lX7_gaps_66_e0, if_pos (by omega)]; rfl
    · rw [lX7_gaps_66_e0, if_pos (by omega)]; rfl
  | succ d ih =>
    intro dp n hd hd1 hn
    obtain ⟨n, rfl⟩ : ∃ m, n = m + 1 := ⟨n - 1, by omega⟩
    have e5 : wr ((dp : Int) + 1) = ((dp + 1 : Nat) : Int) := by rw [wr_of (by omega) (by omega)]; omega
    have u := setN_up (p := cB (gpP w t N (fun z => it (i + z)))) (n := dp) (by omega)
    have main : lX7_gaps_66 n 1 σ c r i N (setN dp (cB (gpP w t N (fun z => it (i + z)))) : Nat) dp 1 0 = some ((setN 21 (cB (gpP w t N (fun z => it (i + z)))) : Int), hup σ 7 0 4 0) := by
      refine gaps7_1 (P := gpP w t N (fun z => it (i + z)) dp) (K := 30 * d + 1) e27 hw hc ht hr hi hN (by omega) (setN_lt31 _ (by omega)) (fun hp m hm => ?_) (fun hp m hm => ?_) N 0 n (by omega) (by omega) ?_
      · rw [u.2 (cB_0 hp), e5]
        exact (ih (dp + 1) m (by omega) (by omega) hm).1
      · rw [u.1 (cB_1.mpr hp), e5]
        exact (ih (dp + 1) m (by omega) (by omega) hm).1
      · exact ⟨fun h x _ h2 => by rw [hit (i + x) (by omega)]; exact h.2 x h2, fun h => ⟨hd1, fun x h2 => by rw [h x (by omega) h2, hit (i + x) (by omega)]⟩⟩
    refine ⟨?_, ?_⟩
    · rw [lX7_gaps_66_e0, if_neg (by omega)]; exact main
    · rw [lX7_gaps_66_e0, if_neg (by omega)]; exact main
theorem ok_gaps {σ : Hp} (h : Sim σ) {a b i n : Int} (hi : Rg i) (hn : Rg n) : Ok (fun τ => fX6_gaps τ a b i n) (fun τ => fX7_gaps τ a b i n) σ := by
  obtain ⟨hR, hw⟩ := h.2.2.1.1
  have h3 := hw.2.2.2.1
  by_cases ha : 0 ≤ a ∧ a < σ 27 0 3
  case neg =>
    refine Ok.same (r := -1000001) h ?_ ?_
    · simp only [fX6_gaps]; rw [if_pos ((cut6 hR).mpr ha)]
    · simp only [fX7_gaps]; rw [if_pos ((cut7_0 hw).mpr ha)]
  by_cases hr : 0 ≤ b ∧ b < 8
  case neg =>
    refine Ok.same (r := -1000001) h ?_ ?_
    · simp only [fX6_gaps]; rw [if_neg (fun z => (cut6 hR).mp z ha), if_pos (row6_0.mpr hr)]
    · simp only [fX7_gaps]; rw [if_neg (fun z => (cut7_0 hw).mp z ha), if_pos (row7_0.mpr hr)]
  by_cases hN : 1 ≤ n ∧ n ≤ 16
  case neg =>
    refine Ok.same (r := -1000001) h ?_ ?_
    · simp only [fX6_gaps]; rw [if_neg (fun z => (cut6 hR).mp z ha), if_neg (fun z => row6_0.mp z hr), if_pos (told6_0.mpr hN)]
    · simp only [fX7_gaps]; rw [if_neg (fun z => (cut7_0 hw).mp z ha), if_neg (fun z => row7_0.mp z hr), if_pos (in_0.mpr hN)]
  obtain ⟨r, rfl⟩ : ∃ r : Nat, b = r := ⟨b.toNat, by omega⟩
  obtain ⟨c, rfl⟩ : ∃ c : Nat, a = c := ⟨a.toNat, by omega⟩
  have hr8 : r < 8 := by omega
  have hwt : ∀ τ : Hp, τ 27 0 = σ 27 0 → WF 999 (τ 27 0) := fun τ e => by rw [e]; exact hw
  have n6 : ∀ {τ : Hp} {v : Int}, τ = hup σ 6 0 9 v → τ 27 0 = σ 27 0 := fun e => by rw [e, hup_s (by omega)]
  rcases h.1 r hr8 with ⟨l1, t1⟩ | ⟨l1, t1, t2, t3, m1, it⟩
  · refine Ok.found (v := 1) h (by omega) ?_ (fun τ hτ => ?_)
    · simp only [fX6_gaps]
      have e : fX6_findingIn σ r i n = 1 := by unfold fX6_findingIn; rw [if_pos t1]
      rw [if_neg (fun z => (cut6 hR).mp z ha), if_neg (fun z => row6_0.mp z hr), if_neg (fun z => told6_0.mp z hN), gd_pos (by omega), Int.toNat_natCast, e, if_neg (by omega)]; rfl
    · simp only [fX7_gaps]
      rw [if_neg (fun z => (cut7_0 (hwt τ (n6 hτ))).mp z (by rw [n6 hτ]; exact ha)), if_neg (fun z => row7_0.mp z hr), if_neg (in_1 hN), miss7 hr8, cl_pos, hτ, hup_s (by omega), if_pos l1, if_neg (by omega)]; rfl
  · have e := find6 (σ := σ) (j := r) (i := i) (n := n) hn hi (by omega) t1
    have p7 : ∀ τ : Hp, τ 23 0 = σ 23 0 → fX7_isPart τ r i n = some (if 0 ≤ i ∧ 0 ≤ n ∧ i + n ≤ σ 23 0 r then 1 else 0, τ) := fun τ eτ => by
      have := part7 (σ := τ) (r := r) (i := i) (n := n) hr8 hi hn (by rw [eτ]; exact m1)
      rw [eτ] at this
      exact this
    by_cases hin : 0 ≤ i ∧ 0 ≤ n ∧ i + n ≤ σ 23 0 r
    · obtain ⟨k, rfl⟩ : ∃ k : Nat, i = k := ⟨i.toNat, by omega⟩
      obtain ⟨N, rfl⟩ : ∃ k : Nat, n = k := ⟨n.toNat, by omega⟩
      rw [if_pos (by omega)] at e
      obtain ⟨t, ht⟩ : ∃ t : Nat, σ 27 0 (16 + 4 * c) = t := ⟨(σ 27 0 (16 + 4 * c)).toNat, by have := (hw.2.2.2.2.2 c ha.2).1; omega⟩
      have hnz : setN 1 (cB (gpP (σ 27 0) t N (fun z => σ 11 r (k + z)))) = 0 := by
        show (if cB (gpP (σ 27 0) t N (fun z => σ 11 r (k + z))) 0 = true then 0 ||| 2 ^ 0 else 0) = 0
        rw [if_neg (by rw [cB_0 (fun z => by have := z.1; omega)]; decide)]
      obtain ⟨σ1, e1, q1, o1⟩ := gaps6_l (it := σ 11 r) (r := r) (i := k) (N := N) hw ha.2 ht hr8 (by omega) (by omega) 20 1 FU σ (by omega) (by omega) (by rw [FU_eq]; omega) hR (fun _ _ => rfl) (Or.inr (h.2.2.2.2.2.2 1 (by omega)))
      rw [hnz] at e1
      have e1' : lX6_gaps_61 FU σ c r k N 0 1 = some ((setN 21 (cB (gpP (σ 27 0) t N (fun z => σ 11 r (k + z)))) : Int), hup σ1 6 0 9 0) := e1
      obtain ⟨σ2, hσ2⟩ : ∃ σ2, σ2 = hup σ1 6 0 9 0 := ⟨_, rfl⟩
      rw [← hσ2] at e1'
      have off : ∀ s j, s ≠ 6 → ¬ (isW s ∧ j = 1) → σ2 s j = σ s j := fun s j h6 hs => by rw [hσ2, hup_s h6]; exact o1 s j hs
      have e27 : σ2 27 0 = σ 27 0 := off 27 0 (by omega) (fun z => nw27 z.1)
      have e24 : σ2 24 0 = σ 24 0 := off 24 0 (by omega) (fun z => nw24 z.1)
      have nw : ∀ s, (s = 22 ∨ s = 23) → ¬ isW s := fun s hs z => by rcases z with q | q <;> omega
      have e22 : σ2 22 0 = σ 22 0 := off 22 0 (by omega) (fun z => nw 22 (by omega) z.1)
      have e23 : σ2 23 0 = σ 23 0 := off 23 0 (by omega) (fun z => nw 23 (by omega) z.1)
      have e7 := (gaps7_l (σ := σ2) (it := σ 11 r) (r := r) (i := k) (N := N) e27 hw ha.2 ht hr8 (by omega) (by omega) (fun x hx => by rw [e24]; exact (it x hx).symm) 20 1 FU (by omega) (by omega) (by rw [FU_eq]; omega)).2
      rw [hnz] at e7
      have e7' : lX7_gaps_66 FU 0 σ2 c r k N 0 1 0 0 = some ((setN 21 (cB (gpP (σ 27 0) t N (fun z => σ 11 r (k + z)))) : Int), hup σ2 7 0 4 0) := by
        have e7b := (gaps7_l (σ := σ2) (it := σ 11 r) (r := r) (i := k) (N := N) e27 hw ha.2 ht hr8 (by omega) (by omega) (fun x hx => by rw [e24]; exact (it x hx).symm) 20 1 FU (by omega) (by omega) (by rw [FU_eq]; omega)).1
        rw [hnz] at e7b
        exact e7b
      have hS : Sim σ1 := h.off (fun s j hs => o1 s j (fun z => hs (Or.inl z))) q1
      refine ⟨(setN 21 (cB (gpP (σ 27 0) t N (fun z => σ 11 r (k + z)))) : Int), σ2, hup σ2 7 0 4 0, ?_, ?_, ?_⟩
      · simp only [fX6_gaps]
        rw [if_neg (fun z => (cut6 hR).mp z ha), if_neg (fun z => row6_0.mp z hr), if_neg (fun z => told6_0.mp z hN), gd_pos (by omega), Int.toNat_natCast, if_pos e, e1']
      · simp only [fX7_gaps]
        rw [if_neg (fun z => (cut7_0 (hwt σ2 e27)).mp z (by rw [e27]; exact ha)), if_neg (fun z => row7_0.mp z hr), if_neg (in_1 hN), miss7 hr8, cl_pos, e22, if_neg (show ¬ σ 22 0 r = -1000000 by omega), if_pos rfl, p7 σ2 e23, cl_pos, if_pos hin, if_neg (by omega), e7']
      · rw [hσ2]
        exact hS.sta 0
    · rw [if_neg (by omega)] at e
      refine Ok.found (v := 2) h (by omega) ?_ (fun τ hτ => ?_)
      · simp only [fX6_gaps]
        rw [if_neg (fun z => (cut6 hR).mp z ha), if_neg (fun z => row6_0.mp z hr), if_neg (fun z => told6_0.mp z hN), gd_pos (by omega), Int.toNat_natCast, e, if_neg (by omega)]; rfl
      · simp only [fX7_gaps]
        rw [if_neg (fun z => (cut7_0 (hwt τ (n6 hτ))).mp z (by rw [n6 hτ]; exact ha)), if_neg (fun z => row7_0.mp z hr), if_neg (in_1 hN), miss7 hr8, cl_pos, p7 τ (by rw [hτ, hup_s (by omega)]), hτ, hup_s (by omega), if_neg (show ¬ σ 22 0 r = -1000000 by omega), if_pos rfl, cl_pos, if_neg hin, if_pos rfl]; rfl
