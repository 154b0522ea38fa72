/-! which -/
theorem grt_end (k su : Int) : ∀ (d : Nat) (y g : Int), grt k su (d + 1) y g = grt k su d y g + growS k su (grt k su d y g) (y + d) := by
  intro d
  induction d with
  | zero =>
    intro y g
    show g + growS k su g y = g + growS k su g (y + 0)
    rw [Int.add_zero]
  | succ d ih =>
    intro y g
    have h := ih (y + 1) (g + growS k su g y)
    rw [show y + 1 + (d : Int) = y + ((d + 1 : Nat) : Int) by omega] at h
    exact h
def whP (w : Wv) (t N : Nat) (I : Nat → Int) (k su : Int) : Prop := ∀ z, z < N → grt k su (z + 1) (w 1) (w (5 + 3 * t)) = I z
theorem grows7_l {σ : Hp} {w : Wv} {t N F : Nat} {k su : Int} (e27 : σ 27 0 = w) (hw : WF 999 w) (ht : (t : Int) < w 2) (hs : 0 ≤ su ∧ su ≤ 9) (hN : N ≤ 16) (hF : F + N ≤ 320) : ∀ (d c n : Nat) (b : Int), c + d = N → d + 1 ≤ n → (b = 0 ∨ b = 1) →
    ∃ r, lX7_growsSo_20 n σ k su F N (grt k su c (w 1) (w (5 + 3 * t))) b c = some (r, σ) ∧ (r = 0 ∨ r = 1) ∧ (r = 1 ↔ b = 1 ∧ ∀ z, c ≤ z → z < N → grt k su (z + 1) (w 1) (w (5 + 3 * t)) = σ 24 0 (F + z)) := by
  obtain ⟨b1, b2, b3⟩ := hw.2.2.2.2.1 t ht
  have h1 := hw.2.1
  intro d
  induction d with
  | zero =>
    intro c n b hc hn hb
    obtain ⟨n, rfl⟩ : ∃ m, n = m + 1 := ⟨n - 1, by omega⟩
    exact ⟨b, by rw [lX7_growsSo_20_e0, if_pos (by omega), gd_pos hb], hb, fun h => ⟨h, fun z h1 h2 => by omega⟩, fun h => h.1⟩
  | succ d ih =>
    intro c n b hc hn hb
    obtain ⟨n, rfl⟩ : ∃ m, n = m + 1 := ⟨n - 1, by omega⟩
    have e5 : wr ((c : Int) + 1) = ((c + 1 : Nat) : Int) := by rw [wr_of (by omega) (by omega)]; omega
    have e4 : wr ((F : Int) + (c : Int)) = ((F + c : Nat) : Int) := by rw [wr_of (by omega) (by omega)]; omega
    have ey : wr (w 1 + (c : Int)) = w 1 + c := wr_of (by omega) (by omega)
    have hg := grt_in k hs.1 hs.2 c (w 1) (w (5 + 3 * t)) b2.1 b2.2
    have hgr := growS_in (k := k) (y := w 1 + c) hs.1 hs.2 (g := grt k su c (w 1) (w (5 + 3 * t))) (by omega) hg.2
    rw [lX7_growsSo_20_e0, if_neg (by omega), e27, ey, grow7 hs.1 hs.2 (by omega) (by omega) (by omega) hg.2, wr_of (x := grt k su c (w 1) (w (5 + 3 * t)) + growS k su (grt k su c (w 1) (w (5 + 3 * t))) (w 1 + c)) (by omega) (by omega), ← grt_end, e5, e4]
    rcases hb with hb | hb
    · rw [if_pos hb]
      obtain ⟨r, e, r1, i1⟩ := ih (c + 1) n 0 (by omega) (by omega) (Or.inl rfl)
      refine ⟨r, e, r1, i1.trans ⟨fun z => absurd z.1 (by decide), fun z => ?_⟩⟩
      have := z.1
      omega
    · rw [if_neg (by omega), gd_pos (by omega), Int.toNat_natCast]
      by_cases q : σ 24 0 (F + c) = grt k su (c + 1) (w 1) (w (5 + 3 * t))
      · rw [if_pos q]
        obtain ⟨r, e, r1, i1⟩ := ih (c + 1) n 1 (by omega) (by omega) (Or.inr rfl)
        refine ⟨r, e, r1, i1.trans ⟨fun z => ⟨hb, fun x h1 h2 => ?_⟩, fun z => ⟨rfl, fun x h1 h2 => z.2 x (by omega) h2⟩⟩⟩
        by_cases e : x = c
        · subst e; exact q.symm
        · exact z.2 x (by omega) h2
      · rw [if_neg q]
        obtain ⟨r, e, r1, i1⟩ := ih (c + 1) n 0 (by omega) (by omega) (Or.inl rfl)
        exact ⟨r, e, r1, i1.trans ⟨fun z => absurd z.1 (by decide), fun z => absurd (z.2 c (Nat.le_refl _) (by omega)).symm q⟩⟩
theorem grows7 {σ : Hp} {w : Wv} {t N F : Nat} {k su : Int} (e27 : σ 27 0 = w) (hw : WF 999 w) (ht : (t : Int) < w 2) (hs : 0 ≤ su ∧ su ≤ 9) (hN : N ≤ 16) (hF : F + N ≤ 320) : ∃ r, fX7_growsSo σ t k su F N = some (r, σ) ∧ (r = 0 ∨ r = 1) ∧ (r = 1 ↔ whP w t N (fun z => σ 24 0 (F + z)) k su) := by
  have h2 := hw.2.2.1
  obtain ⟨r, e, r1, i1⟩ := grows7_l (t := t) (k := k) e27 hw ht hs hN hF N 0 FU 1 (by omega) (by rw [FU_eq]; omega) (Or.inr rfl)
  refine ⟨r, ?_, r1, i1.trans ⟨fun z x hx => z.2 x (by omega) hx, fun z => ⟨rfl, fun x _ hx => z x hx⟩⟩⟩
  unfold fX7_growsSo
  rw [(wr4u (by omega)).1, gd_pos (by omega), Int.toNat_natCast, e27]
  exact e
/-- the class tries one number more in place s of tree t -/
theorem wtry6 {w : Wv} {it : Nat → Int} {t r i N s f : Nat} {k su v : Int} {σ : Hp} (hw : WF 999 w) (ht : (t : Int) < w 2) (hi : i + N ≤ 40) (hN : N ≤ 16) (hsf : (s = 13 ∧ f = 4 + 3 * t ∧ k = v ∧ su = w (6 + 3 * t) ∧ 1 ≤ v ∧ v ≤ 5) ∨ (s = 15 ∧ f = 6 + 3 * t ∧ k = w (4 + 3 * t) ∧ su = v ∧ 0 ≤ v ∧ v ≤ 9)) (hR : RelW σ 0 w) (hit : ∀ x, x < 40 → σ 11 r x = it x) :
    ∃ σ1 σ3 res x, fX5_become σ 1 0 = some (0, σ1) ∧ fX6_goesSo (hup σ1 s 1 t v) 14 1 t r i N = some (res, σ3) ∧ (res = 0 ∨ res = 1) ∧ (res = 1 ↔ whP w t N (fun z => it (i + z)) k su) ∧ RelW σ3 1 x ∧ ∀ s j, ¬ (isW s ∧ j = 1) → σ3 s j = σ s j := by
  have h2 := hw.2.2.1
  have n11 : ¬ isW 11 := fun z => by rcases z with q | q <;> omega
  have hsW : isW s := Or.inr (by omega)
  obtain ⟨σ1, e1, o1, R1⟩ := become_rel (j0 := 1) hR hw
  have R2 := R1.field (s := s) (t := t) (f := f) (v := v) hw (by omega) (by omega)
  have hf16 : 4 ≤ f ∧ f < 16 := by omega
  have lo : ∀ k', k' < 4 → up1 w f v k' = w k' := fun k' hk => up1_ne (by omega)
  have W2 : WF 999 (up1 w f v) := by
    obtain ⟨h0, h1, h2, h3, h4, h5⟩ := hw
    refine ⟨by rw [lo 0 (by omega)]; exact h0, by rw [lo 1 (by omega)]; exact h1, by rw [lo 2 (by omega)]; exact h2, by rw [lo 3 (by omega)]; exact h3, fun t' ht' => ?_, fun c hc => ?_⟩
    · rw [lo 2 (by omega)] at ht'
      obtain ⟨p1, p2, p3⟩ := h4 t' ht'
      unfold up1
      refine ⟨?_, ?_, ?_⟩
      · split
        · omega
        · exact p1
      · rw [if_neg (by omega)]; exact p2
      · split
        · omega
        · exact p3
    · rw [lo 3 (by omega)] at hc
      rw [lo 2 (by omega), up1_ne (x := 16 + 4 * c) (by omega), up1_ne (x := 17 + 4 * c) (by omega), up1_ne (x := 18 + 4 * c) (by omega), up1_ne (x := 19 + 4 * c) (by omega)]
      exact h5 c hc
  have o2 : ∀ s' j, ¬ (isW s' ∧ j = 1) → hup σ1 s 1 t v s' j = σ s' j := fun s' j hs => by
    rw [hup_row, srow_ne (fun z => hs ⟨by rw [z.1]; exact hsW, z.2⟩), o1 s' j hs]
  obtain ⟨res, σ3, x, e3, r3, i3, R3, o3⟩ := goes6 (s1 := 14) (k := t) (fld := 5 + 3 * t) (r := r) (i := i) (N := N) (it := it) (show t < 4 by omega) (fun τ y hτ => (hτ.2.2.2.2.2.1 t (by rw [yrs_lo y _ (by omega) (by omega), lo 2 (by omega)]; exact ht)).2.1) W2 hi hN R2 (fun x hx => by rw [o2 11 r (fun z => n11 z.1)]; exact hit x hx)
  have hd : ∀ z, yrs (z + 1) (up1 w f v) (5 + 3 * t) = grt k su (z + 1) (w 1) (w (5 + 3 * t)) := fun z => by
    have := yrs_girth (z + 1) (t := t) W2 (by rw [lo 2 (by omega)]; exact ht)
    rw [lo 1 (by omega), up1_ne (x := 5 + 3 * t) (by omega)] at this
    rcases hsf with ⟨q1, q2, q3, q4, q5⟩ | ⟨q1, q2, q3, q4, q5⟩
    · rw [q2, up1_at, up1_ne (by omega)] at this
      rw [q2, q3, q4]; exact this
    · rw [q2, up1_at, up1_ne (by omega)] at this
      rw [q2, q3, q4]; exact this
  refine ⟨σ1, σ3, res, x, e1, e3, r3, ?_, R3, fun s' j hs => (o3 s' j hs).trans (o2 s' j hs)⟩
  rw [i3]
  exact ⟨fun h z hz => by rw [← hd z]; exact h z hz, fun h z hz => by rw [hd z]; exact h z hz⟩
def whK (w : Wv) (t N : Nat) (I : Nat → Int) (v : Nat) : Prop := (1 ≤ v ∧ v ≤ 5) ∧ whP w t N I v (w (6 + 3 * t))
def whS (w : Wv) (t N : Nat) (I : Nat → Int) (v : Nat) : Prop := whP w t N I (w (4 + 3 * t)) v
theorem kinds6_l {w : Wv} {it : Nat → Int} {t r i N : Nat} (hw : WF 999 w) (ht : (t : Int) < w 2) (hi : i + N ≤ 40) (hN : N ≤ 16) : ∀ (d v n : Nat) (σ : Hp), v + d = 6 → 1 ≤ v → d + 1 ≤ n → RelW σ 0 w → (∀ x, x < 40 → σ 11 r x = it x) → (σ 5 1 7 = 0 ∨ σ 5 1 7 = 1) →
    ∃ σ', lX6_kindsThatGoSo_6 n σ r t i N (setN v (cB (whK w t N (fun z => it (i + z)))) : Nat) v = some ((setN 6 (cB (whK w t N (fun z => it (i + z)))) : Int), σ') ∧ (σ' 5 1 7 = 0 ∨ σ' 5 1 7 = 1) ∧ ∀ s j, ¬ (isW s ∧ j = 1) → σ' s j = σ s j := by
  have h2 := hw.2.2.1
  have htw := (hw.2.2.2.2.1 t ht)
  have n11 : ¬ isW 11 := fun z => by rcases z with q | q <;> omega
  intro d
  induction d with
  | zero =>
    intro v n σ hd hd1 hn hR hit hx
    obtain ⟨n, rfl⟩ : ∃ m, n = m + 1 := ⟨n - 1, by omega⟩
    obtain rfl : v = 6 := by omega
    exact ⟨σ, by rw [lX6_kindsThatGoSo_6_e0, if_pos (by omega)], hx, fun _ _ _ => rfl⟩
  | succ d ih =>
    intro v n σ hd hd1 hn hR hit hx
    obtain ⟨n, rfl⟩ : ∃ m, n = m + 1 := ⟨n - 1, by omega⟩
    have e5 : wr ((v : Int) + 1) = ((v + 1 : Nat) : Int) := by rw [wr_of (by omega) (by omega)]; omega
    obtain ⟨σ1, σ3, res, x, e1, e3, r3, i3, R3, off⟩ := wtry6 (s := 13) (f := 4 + 3 * t) (k := v) (su := w (6 + 3 * t)) (v := v) (r := r) hw ht hi hN (Or.inl ⟨rfl, rfl, rfl, rfl, by omega, by omega⟩) hR hit
    obtain ⟨σ', e4, t4, o4⟩ := ih (v + 1) n σ3 (by omega) (by omega) (by omega) (hR.cg (fun s hs => off s 0 (fun z => by omega))) (fun x hx => by rw [off 11 r (fun z => n11 z.1)]; exact hit x hx) R3.told
    refine ⟨σ', ?_, t4, fun s j hs => (o4 s j hs).trans (off s j hs)⟩
    have u := setN_up (p := cB (whK w t N (fun z => it (i + z)))) (n := v) (by omega)
    rw [lX6_kindsThatGoSo_6_e0, if_neg (by omega), e1, cl_pos, gd_pos (by omega), Int.toNat_natCast]
    simp only [sq]
    rw [e3, cl_pos, e5]
    by_cases q : res = 1
    · rw [if_neg (by omega), u.1 (cB_1.mpr ⟨⟨hd1, by omega⟩, i3.mp q⟩)]
      exact e4
    · rw [if_pos (by omega), u.2 (cB_0 (fun z => q (i3.mpr z.2)))]
      exact e4
theorem suns6_l {w : Wv} {it : Nat → Int} {t r i N : Nat} (hw : WF 999 w) (ht : (t : Int) < w 2) (hi : i + N ≤ 40) (hN : N ≤ 16) : ∀ (d v n : Nat) (σ : Hp), v + d = 10 → d + 1 ≤ n → RelW σ 0 w → (∀ x, x < 40 → σ 11 r x = it x) → (σ 5 1 7 = 0 ∨ σ 5 1 7 = 1) →
    ∃ σ', lX6_sunsThatGoSo_6 n σ r t i N (setN v (cB (whS w t N (fun z => it (i + z)))) : Nat) v = some ((setN 10 (cB (whS w t N (fun z => it (i + z)))) : Int), σ') ∧ (σ' 5 1 7 = 0 ∨ σ' 5 1 7 = 1) ∧ ∀ s j, ¬ (isW s ∧ j = 1) → σ' s j = σ s j := by
  have h2 := hw.2.2.1
  have n11 : ¬ isW 11 := fun z => by rcases z with q | q <;> omega
  intro d
  induction d with
  | zero =>
    intro v n σ hd hn hR hit hx
    obtain ⟨n, rfl⟩ : ∃ m, n = m + 1 := ⟨n - 1, by omega⟩
    obtain rfl : v = 10 := by omega
    exact ⟨σ, by rw [lX6_sunsThatGoSo_6_e0, if_pos (by omega)], hx, fun _ _ _ => rfl⟩
  | succ d ih =>
    intro v n σ hd hn hR hit hx
    obtain ⟨n, rfl⟩ : ∃ m, n = m + 1 := ⟨n - 1, by omega⟩
    have e5 : wr ((v : Int) + 1) = ((v + 1 : Nat) : Int) := by rw [wr_of (by omega) (by omega)]; omega
    obtain ⟨σ1, σ3, res, x, e1, e3, r3, i3, R3, off⟩ := wtry6 (s := 15) (f := 6 + 3 * t) (k := w (4 + 3 * t)) (su := v) (v := v) (r := r) hw ht hi hN (Or.inr ⟨rfl, rfl, rfl, rfl, by omega, by omega⟩) hR hit
    obtain ⟨σ', e4, t4, o4⟩ := ih (v + 1) n σ3 (by omega) (by omega) (hR.cg (fun s hs => off s 0 (fun z => by omega))) (fun x hx => by rw [off 11 r (fun z => n11 z.1)]; exact hit x hx) R3.told
    refine ⟨σ', ?_, t4, fun s j hs => (o4 s j hs).trans (off s j hs)⟩
    have u := setN_up (p := cB (whS w t N (fun z => it (i + z)))) (n := v) (by omega)
    rw [lX6_sunsThatGoSo_6_e0, if_neg (by omega), e1, cl_pos, gd_pos (by omega), Int.toNat_natCast]
    simp only [sq]
    rw [e3, cl_pos, e5]
    by_cases q : res = 1
    · rw [if_neg (by omega), u.1 (cB_1.mpr (i3.mp q))]
      exact e4
    · rw [if_pos (by omega), u.2 (cB_0 (fun z => q (i3.mpr z)))]
      exact e4
theorem which7_k {σ : Hp} {w : Wv} {I : Nat → Int} {t r i N : Nat} (e27 : σ 27 0 = w) (hw : WF 999 w) (ht : (t : Int) < w 2) (hr : r < 8) (hi : i + N ≤ 40) (hN : N ≤ 16) (hit : ∀ z, z < N → σ 24 0 (40 * r + i + z) = I z) : ∀ (d v n : Nat), v + d = 10 → 4 * d + 1 ≤ n →
    lX7_which_76 n 0 σ t r i N 0 (setN v (cB (whK w t N I)) : Nat) v 0 0 0 = some ((setN 10 (cB (whK w t N I)) : Int), hup σ 7 0 4 0) := by
  have h2 := hw.2.2.1
  obtain ⟨b1, b2, b3⟩ := hw.2.2.2.2.1 t ht
  have e40 : wr (wr (40 * (r : Int)) + (i : Int)) = ((40 * r + i : Nat) : Int) := by rw [wr_of (x := 40 * (r : Int)) (by omega) (by omega), wr_of (by omega) (by omega)]; omega
  intro d
  induction d with
  | zero =>
    intro v n hd hn
    obtain ⟨n, rfl⟩ : ∃ m, n = m + 1 := ⟨n - 1, by omega⟩
    obtain rfl : v = 10 := by omega
    rw [lX7_which_76_e0, if_pos (by omega)]
    rfl
  | succ d ih =>
    intro v n hd hn
    obtain ⟨n, rfl⟩ : ∃ m, n = m + 1 + 1 + 1 + 1 := ⟨n - 4, by omega⟩
    have e5 : wr ((v : Int) + 1) = ((v + 1 : Nat) : Int) := by rw [wr_of (by omega) (by omega)]; omega
    have u := setN_up (p := cB (whK w t N I)) (n := v) (by omega)
    have iht := ih (v + 1) n (by omega) (by omega)
    rw [lX7_which_76_e0, if_neg (by omega), if_pos rfl, lX7_which_76_e1, if_pos rfl, (wr4u (by omega)).2, gd_pos (by omega), Int.toNat_natCast, e27, lX7_which_76_e2, if_neg (by omega)]
    by_cases q : 1 ≤ (v : Int) ∧ (v : Int) ≤ 5
    · rw [if_neg (in_1 q), lX7_which_76_e3, if_neg (by omega), e40]
      obtain ⟨res, e, r1, i1⟩ := grows7 (t := t) (N := N) (F := 40 * r + i) (k := (v : Int)) (su := w (6 + 3 * t)) e27 hw ht b3 hN (by omega)
      have i2 : res = 1 ↔ whK w t N I v := i1.trans ⟨fun z => ⟨by omega, fun x hx => by rw [z x hx]; exact hit x hx⟩, fun z x hx => by rw [z.2 x hx]; exact (hit x hx).symm⟩
      rw [e, cl_pos, e5]
      by_cases q1 : res = 1
      · rw [if_neg (by omega), u.1 (cB_1.mpr (i2.mp q1))]
        exact iht
      · rw [if_pos (by omega), qor0 (setN_lt31 _ (by omega)), u.2 (cB_0 (fun z => q1 (i2.mpr z)))]
        exact iht
    · rw [if_pos (in_0.mpr q), lX7_which_76_e3, if_pos rfl, e5, qor0 (setN_lt31 _ (by omega)), u.2 (cB_0 (fun z => q (by have := z.1; omega)))]
      exact iht
theorem which7_s {σ : Hp} {w : Wv} {I : Nat → Int} {t r i N : Nat} (e27 : σ 27 0 = w) (hw : WF 999 w) (ht : (t : Int) < w 2) (hr : r < 8) (hi : i + N ≤ 40) (hN : N ≤ 16) (hit : ∀ z, z < N → σ 24 0 (40 * r + i + z) = I z) : ∀ (d v n : Nat), v + d = 10 → 4 * d + 1 ≤ n →
    lX7_which_76 n 0 σ t r i N 1 (setN v (cB (whS w t N I)) : Nat) v 0 0 0 = some ((setN 10 (cB (whS w t N I)) : Int), hup σ 7 0 4 0) := by
  have h2 := hw.2.2.1
  obtain ⟨b1, b2, b3⟩ := hw.2.2.2.2.1 t ht
  have e40 : wr (wr (40 * (r : Int)) + (i : Int)) = ((40 * r + i : Nat) : Int) := by rw [wr_of (x := 40 * (r : Int)) (by omega) (by omega), wr_of (by omega) (by omega)]; omega
  intro d
  induction d with
  | zero =>
    intro v n hd hn
    obtain ⟨n, rfl⟩ : ∃ m, n = m + 1 := ⟨n - 1, by omega⟩
    obtain rfl : v = 10 := by omega
    rw [lX7_which_76_e0, if_pos (by omega)]
    rfl
  | succ d ih =>
    intro v n hd hn
    obtain ⟨n, rfl⟩ : ∃ m, n = m + 1 + 1 + 1 + 1 := ⟨n - 4, by omega⟩
    have e5 : wr ((v : Int) + 1) = ((v + 1 : Nat) : Int) := by rw [wr_of (by omega) (by omega)]; omega
    have u := setN_up (p := cB (whS w t N I)) (n := v) (by omega)
    have iht := ih (v + 1) n (by omega) (by omega)
    rw [lX7_which_76_e0, if_neg (by omega), if_neg (by omega), wr4t (by omega), gd_pos (by omega), Int.toNat_natCast, e27, lX7_which_76_e1, if_neg (by omega), lX7_which_76_e2, if_pos rfl, lX7_which_76_e3, if_neg (by omega), e40]
    obtain ⟨res, e, r1, i1⟩ := grows7 (t := t) (N := N) (F := 40 * r + i) (k := w (4 + 3 * t)) (su := (v : Int)) e27 hw ht (by omega) hN (by omega)
    have i2 : res = 1 ↔ whS w t N I v := i1.trans ⟨fun z x hx => by rw [z x hx]; exact hit x hx, fun z x hx => by rw [z x hx]; exact (hit x hx).symm⟩
    rw [e, cl_pos, e5]
    by_cases q1 : res = 1
    · rw [if_neg (by omega), u.1 (cB_1.mpr (i2.mp q1))]
      exact iht
    · rw [if_pos (by omega), qor0 (setN_lt31 _ (by omega)), u.2 (cB_0 (fun z => q1 (i2.mpr z)))]
      exact iht
theorem setN_stop {p : Nat → Bool} {m : Nat} (h : ∀ i, m ≤ i → p i = false) : ∀ n, m ≤ n → setN n p = setN m p := by
  intro n
  induction n with
  | zero => intro hn; rw [show m = 0 by omega]
  | succ n ih =>
    intro hn
    by_cases e : m = n + 1
    · rw [e]
    · show (if p n = true then setN n p ||| 2 ^ n else setN n p) = setN m p
      rw [if_neg (by rw [h n (by omega)]; decide)]
      exact ih (by omega)
theorem ok_which {σ : Hp} (h : Sim σ) {a b i n s : Int} (hi : Rg i) (hn : Rg n) : Ok (fun τ => fX6_which τ a b i n s) (fun τ => fX7_which τ a b i n s) σ := by
  obtain ⟨hR, hw⟩ := h.2.2.1.1
  have h2 := hw.2.2.1
  by_cases ha : 0 ≤ a ∧ a < σ 27 0 2
  case neg =>
    refine Ok.same (r := -1000001) h ?_ ?_
    · simp only [fX6_which]; rw [if_pos ((tree6 hR).mpr ha)]
    · simp only [fX7_which]; rw [if_pos ((tree7 hw).mpr ha)]
  by_cases hr : 0 ≤ b ∧ b < 8
  case neg =>
    refine Ok.same (r := -1000001) h ?_ ?_
    · simp only [fX6_which]; rw [if_neg (fun z => (tree6 hR).mp z ha), if_pos (row6_0.mpr hr)]
    · simp only [fX7_which]; rw [if_neg (fun z => (tree7 hw).mp z ha), if_pos (row7_0.mpr hr)]
  by_cases hN : 1 ≤ n ∧ n ≤ 16
  case neg =>
    refine Ok.same (r := -1000001) h ?_ ?_
    · simp only [fX6_which]; rw [if_neg (fun z => (tree6 hR).mp z ha), if_neg (fun z => row6_0.mp z hr), if_pos (told6_0.mpr hN)]
    · simp only [fX7_which]; rw [if_neg (fun z => (tree7 hw).mp z ha), if_neg (fun z => row7_0.mp z hr), if_pos (in_0.mpr hN)]
  by_cases hs : 0 ≤ s ∧ s ≤ 1
  case neg =>
    refine Ok.same (r := -1000001) h ?_ ?_
    · simp only [fX6_which]; rw [if_neg (fun z => (tree6 hR).mp z ha), if_neg (fun z => row6_0.mp z hr), if_neg (fun z => told6_0.mp z hN), if_pos (choice6_0.mpr hs)]
    · simp only [fX7_which]; rw [if_neg (fun z => (tree7 hw).mp z ha), if_neg (fun z => row7_0.mp z hr), if_neg (in_1 hN), if_pos (in_0.mpr hs)]
  obtain ⟨r, rfl⟩ : ∃ r : Nat, b = r := ⟨b.toNat, by omega⟩
  obtain ⟨t, rfl⟩ : ∃ t : Nat, a = t := ⟨a.toNat, by omega⟩
  have hr8 : r < 8 := by omega
  have hwt : ∀ τ : Hp, τ 27 0 = σ 27 0 → WF 999 (τ 27 0) := fun τ e => by rw [e]; exact hw
  have n6 : ∀ {τ : Hp} {v : Int}, τ = hup σ 6 0 9 v → τ 27 0 = σ 27 0 := fun e => by rw [e, hup_s (by omega)]
  rcases h.1 r hr8 with ⟨l1, t1⟩ | ⟨l1, t1, t2, t3, m1, it⟩
  · refine Ok.found (v := 1) h (by omega) ?_ (fun τ hτ => ?_)
    · simp only [fX6_which]
      have e : fX6_findingIn σ r i n = 1 := by unfold fX6_findingIn; rw [if_pos t1]
      rw [if_neg (fun z => (tree6 hR).mp z ha), if_neg (fun z => row6_0.mp z hr), if_neg (fun z => told6_0.mp z hN), if_neg (fun z => choice6_0.mp z hs), gd_pos (by omega), Int.toNat_natCast, e, if_neg (by omega)]; rfl
    · simp only [fX7_which]
      rw [if_neg (fun z => (tree7 (hwt τ (n6 hτ))).mp z (by rw [n6 hτ]; exact ha)), if_neg (fun z => row7_0.mp z hr), if_neg (in_1 hN), if_neg (in_1 hs), miss7 hr8, cl_pos, hτ, hup_s (by omega), if_pos l1, if_neg (by omega)]; rfl
  · have e := find6 (σ := σ) (j := r) (i := i) (n := n) hn hi (by omega) t1
    have p7 : ∀ τ : Hp, τ 23 0 = σ 23 0 → fX7_isPart τ r i n = some (if 0 ≤ i ∧ 0 ≤ n ∧ i + n ≤ σ 23 0 r then 1 else 0, τ) := fun τ eτ => by
      have := part7 (σ := τ) (r := r) (i := i) (n := n) hr8 hi hn (by rw [eτ]; exact m1)
      rw [eτ] at this
      exact this
    by_cases hin : 0 ≤ i ∧ 0 ≤ n ∧ i + n ≤ σ 23 0 r
    · obtain ⟨k, rfl⟩ : ∃ k : Nat, i = k := ⟨i.toNat, by omega⟩
      obtain ⟨N, rfl⟩ : ∃ k : Nat, n = k := ⟨n.toNat, by omega⟩
      rw [if_pos (by omega)] at e
      have nw : ∀ s, (s = 22 ∨ s = 23) → ¬ isW s := fun s hs z => by rcases z with q | q <;> omega
      have fin : ∀ (σ1 : Hp) (res : Int), (σ1 5 1 7 = 0 ∨ σ1 5 1 7 = 1) → (∀ s j, ¬ (isW s ∧ j = 1) → σ1 s j = σ s j) → (if s = 0 then gd (0 ≤ (r : Int) ∧ (r : Int) < 8) (cl (fX6_kindsThatGoSo σ t (r : Int).toNat k N) (fun r28 σ29 => cl (fX6_foundNothing σ29 r28) (fun r33 σ34 => some (r33, σ34)))) else gd (0 ≤ (r : Int) ∧ (r : Int) < 8) (cl (fX6_sunsThatGoSo σ t (r : Int).toNat k N) (fun r16 σ17 => cl (fX6_foundNothing σ17 r16) (fun r21 σ22 => some (r21, σ22))))) = some (res, hup σ1 6 0 9 0) →
          (∀ σ2 : Hp, σ2 27 0 = σ 27 0 → σ2 24 0 = σ 24 0 → lX7_which_76 FU 0 σ2 t r k N s 0 0 0 0 0 = some (res, hup σ2 7 0 4 0)) → Ok (fun τ => fX6_which τ t r k N s) (fun τ => fX7_which τ t r k N s) σ := by
        intro σ1 res q1 o1 e6 e7
        obtain ⟨σ2, hσ2⟩ : ∃ σ2, σ2 = hup σ1 6 0 9 0 := ⟨_, rfl⟩
        rw [← hσ2] at e6
        have off : ∀ s j, s ≠ 6 → ¬ (isW s ∧ j = 1) → σ2 s j = σ s j := fun s j h6 hs => by rw [hσ2, hup_s h6]; exact o1 s j hs
        have e27 : σ2 27 0 = σ 27 0 := off 27 0 (by omega) (fun z => nw27 z.1)
        have e24 : σ2 24 0 = σ 24 0 := off 24 0 (by omega) (fun z => nw24 z.1)
        have e22 : σ2 22 0 = σ 22 0 := off 22 0 (by omega) (fun z => nw 22 (by omega) z.1)
        have e23 : σ2 23 0 = σ 23 0 := off 23 0 (by omega) (fun z => nw 23 (by omega) z.1)
        have hS : Sim σ1 := h.off (fun s j hs => o1 s j (fun z => hs (Or.inl z))) q1
        refine ⟨res, σ2, hup σ2 7 0 4 0, ?_, ?_, ?_⟩
        · simp only [fX6_which]
          rw [if_neg (fun z => (tree6 hR).mp z ha), if_neg (fun z => row6_0.mp z hr), if_neg (fun z => told6_0.mp z hN), if_neg (fun z => choice6_0.mp z hs), gd_pos (by omega), if_pos (show fX6_findingIn σ (r : Int).toNat k N = 0 by rw [Int.toNat_natCast]; exact e)]
          exact e6
        · simp only [fX7_which]
          rw [if_neg (fun z => (tree7 (hwt σ2 e27)).mp z (by rw [e27]; exact ha)), if_neg (fun z => row7_0.mp z hr), if_neg (in_1 hN), if_neg (in_1 hs), miss7 hr8, cl_pos, e22, if_neg (show ¬ σ 22 0 r = -1000000 by omega), if_pos rfl, p7 σ2 e23, cl_pos, if_pos hin, if_neg (by omega), e7 σ2 e27 e24]
        · rw [hσ2]
          exact hS.sta 0
      have hit : ∀ σ2 : Hp, σ2 24 0 = σ 24 0 → ∀ z, z < N → σ2 24 0 (40 * r + k + z) = (fun z => σ 11 r (k + z)) z := fun σ2 e24 z hz => by
        show σ2 24 0 (40 * r + k + z) = σ 11 r (k + z)
        rw [e24, it (k + z) (by omega), show 40 * r + k + z = 40 * r + (k + z) by omega]
      by_cases hs0 : s = 0
      · have hnz : setN 1 (cB (whK (σ 27 0) t N (fun z => σ 11 r (k + z)))) = 0 := by
          show (if cB (whK (σ 27 0) t N (fun z => σ 11 r (k + z))) 0 = true then 0 ||| 2 ^ 0 else 0) = 0
          rw [if_neg (by rw [cB_0 (fun z => by have := z.1.1; omega)]; decide)]
        obtain ⟨σ1, e1, q1, o1⟩ := kinds6_l (it := σ 11 r) (r := r) (i := k) (N := N) hw ha.2 (by omega) (by omega) 5 1 FU σ (by omega) (by omega) (by rw [FU_eq]; omega) hR (fun _ _ => rfl) (h.2.2.2.2.2.2 1 (by omega))
        rw [hnz] at e1
        have e1' : fX6_kindsThatGoSo σ t r k N = some ((setN 6 (cB (whK (σ 27 0) t N (fun z => σ 11 r (k + z)))) : Int), σ1) := e1
        refine fin σ1 (setN 6 (cB (whK (σ 27 0) t N (fun z => σ 11 r (k + z)))) : Nat) q1 o1 ?_ (fun σ2 e27 e24 => ?_)
        · rw [if_pos hs0, gd_pos (by omega), Int.toNat_natCast, e1', cl_pos]
          rfl
        · have e7 := which7_k (σ := σ2) (I := fun z => σ 11 r (k + z)) (r := r) (i := k) (N := N) e27 hw ha.2 hr8 (by omega) (by omega) (hit σ2 e24) 10 0 FU (by omega) (by rw [FU_eq]; omega)
          rw [setN_stop (m := 6) (fun i hi => cB_0 (fun z => by have := z.1.2; omega)) 10 (by omega)] at e7
          rw [hs0]
          exact e7
      · have hs1 : s = 1 := by omega
        obtain ⟨σ1, e1, q1, o1⟩ := suns6_l (it := σ 11 r) (r := r) (i := k) (N := N) hw ha.2 (by omega) (by omega) 10 0 FU σ (by omega) (by rw [FU_eq]; omega) hR (fun _ _ => rfl) (h.2.2.2.2.2.2 1 (by omega))
        have e1' : fX6_sunsThatGoSo σ t r k N = some ((setN 10 (cB (whS (σ 27 0) t N (fun z => σ 11 r (k + z)))) : Int), σ1) := e1
        refine fin σ1 (setN 10 (cB (whS (σ 27 0) t N (fun z => σ 11 r (k + z)))) : Nat) q1 o1 ?_ (fun σ2 e27 e24 => ?_)
        · rw [if_neg hs0, gd_pos (by omega), Int.toNat_natCast, e1', cl_pos]
          rfl
        · have e7 := which7_s (σ := σ2) (I := fun z => σ 11 r (k + z)) (r := r) (i := k) (N := N) e27 hw ha.2 hr8 (by omega) (by omega) (hit σ2 e24) 10 0 FU (by omega) (by rw [FU_eq]; omega)
          rw [hs1]
          exact e7
    · rw [if_neg (by omega)] at e
      refine Ok.found (v := 2) h (by omega) ?_ (fun τ hτ => ?_)
      · simp only [fX6_which]
        rw [if_neg (fun z => (tree6 hR).mp z ha), if_neg (fun z => row6_0.mp z hr), if_neg (fun z => told6_0.mp z hN), if_neg (fun z => choice6_0.mp z hs), gd_pos (by omega), Int.toNat_natCast, e, if_neg (by omega)]; rfl
      · simp only [fX7_which]
        rw [if_neg (fun z => (tree7 (hwt τ (n6 hτ))).mp z (by rw [n6 hτ]; exact ha)), if_neg (fun z => row7_0.mp z hr), if_neg (in_1 hN), if_neg (in_1 hs), miss7 hr8, cl_pos, p7 τ (by rw [hτ, hup_s (by omega)]), hτ, hup_s (by omega), if_neg (show ¬ σ 22 0 r = -1000000 by omega), if_pos rfl, cl_pos, if_neg hin, if_pos rfl]; rfl
