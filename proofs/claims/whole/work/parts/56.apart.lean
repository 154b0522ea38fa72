/-! two cuts apart -/
def btw (p q : Int) : Int := if (if 0 ≤ p - q then p - q else q - p) ≤ 30 then (if 0 ≤ p - q then p - q else q - p) else 60 - (if 0 ≤ p - q then p - q else q - p)
theorem btw_in {p q : Int} (hp : 0 ≤ p ∧ p ≤ 59) (hq : 0 ≤ q ∧ q ≤ 59) : 0 ≤ btw p q ∧ btw p q ≤ 30 := by
  unfold btw
  repeat' split
  all_goals omega
def apartW (w : Wv) (a b : Nat) : Int := btw (w (18 + 4 * a)) (w (18 + 4 * b)) * w (5 + 3 * (w (16 + 4 * a)).toNat) / 60
abbrev bothW (w : Wv) (a b : Nat) : Prop := w (16 + 4 * a) = w (16 + 4 * b) ∧ 0 < w (19 + 4 * a) ∧ 0 < w (19 + 4 * b)
theorem mul_in {r g : Int} (hr : 0 ≤ r ∧ r ≤ 30) (hg : 0 ≤ g ∧ g ≤ 999) : 0 ≤ r * g ∧ r * g ≤ 29970 := by
  have h1 := Int.mul_nonneg hr.1 hg.1
  have h2 : r * g ≤ 30 * 999 := Int.mul_le_mul hr.2 hg.2 hg.1 (by omega)
  omega
theorem both6 {σ : Hp} {w : Wv} {j a b : Nat} {Y : Int} (hR : RelW σ j w) (hw : WF Y w) (ha : (a : Int) < w 3) (hb : (b : Int) < w 3) : fX5_bothReadable σ j a b = some (if bothW w a b then 1 else 0, σ) := by
  have h3 := hw.2.2.2.1
  obtain ⟨p1, p2, p3, p4⟩ := hR.2.2.2.2.2.2 a ha
  obtain ⟨q1, q2, q3, q4⟩ := hR.2.2.2.2.2.2 b hb
  unfold fX5_bothReadable
  rw [gd_pos (by omega), gd_pos (by omega), gd_pos (by omega), gd_pos (by omega), Int.toNat_natCast, Int.toNat_natCast, p1, q1, p4, q4]
  by_cases c1 : w (16 + 4 * a) = w (16 + 4 * b)
  · rw [if_pos c1]
    by_cases c2 : w (19 + 4 * a) ≤ 0
    · rw [if_pos c2, if_neg (by omega)]
    rw [if_neg c2]
    by_cases c3 : w (19 + 4 * b) ≤ 0
    · rw [if_pos c3, if_neg (by omega)]
    · rw [if_neg c3, if_pos (by omega)]
  · rw [if_neg c1, if_neg (fun z => c1 z.1)]
theorem apart6 {σ : Hp} {w : Wv} {j a b : Nat} {Y : Int} (hR : RelW σ j w) (hw : WF Y w) (ha : (a : Int) < w 3) (hb : (b : Int) < w 3) : fX5_distance σ j a b = some (apartW w a b, σ) := by
  have h3 := hw.2.2.2.1
  have h2 := hw.2.2.1
  obtain ⟨p1, p2, p3, p4⟩ := hR.2.2.2.2.2.2 a ha
  obtain ⟨q1, q2, q3, q4⟩ := hR.2.2.2.2.2.2 b hb
  obtain ⟨u1, u2, u3, u4⟩ := hw.2.2.2.2.2 a ha
  obtain ⟨v1, v2, v3, v4⟩ := hw.2.2.2.2.2 b hb
  have hbt := btw_in u3 v3
  have eb : fX5_placesApart σ j a b = some (btw (w (18 + 4 * a)) (w (18 + 4 * b)), σ) := by
    unfold fX5_placesApart btw qmin qabs
    rw [gd_pos (by omega), gd_pos (by omega), Int.toNat_natCast, Int.toNat_natCast, p3, q3, wr_of (x := w (18 + 4 * a) - w (18 + 4 * b)) (by omega) (by omega)]
    by_cases c : 0 ≤ w (18 + 4 * a) - w (18 + 4 * b)
    · rw [if_pos c, if_pos c, wr_of (x := w (18 + 4 * a) - w (18 + 4 * b)) (by omega) (by omega), wr_of (by omega) (by omega)]
      split <;> split <;> first | rfl | omega
    · rw [if_neg c, if_neg c, show (0 : Int) - (w (18 + 4 * a) - w (18 + 4 * b)) = w (18 + 4 * b) - w (18 + 4 * a) by omega, wr_of (x := w (18 + 4 * b) - w (18 + 4 * a)) (by omega) (by omega), wr_of (by omega) (by omega)]
      split <;> split <;> first | rfl | omega
  unfold fX5_distance apartW
  obtain ⟨t, ht⟩ : ∃ t : Nat, w (16 + 4 * a) = t := ⟨(w (16 + 4 * a)).toNat, by omega⟩
  have ht2 : (t : Int) < w 2 := by omega
  have hg := (hw.2.2.2.2.1 t ht2).2.1
  have hm := mul_in hbt hg
  rw [eb, cl_pos, gd_pos (by omega), Int.toNat_natCast, p1, ht, gd_pos (by omega), Int.toNat_natCast, (hR.2.2.2.2.2.1 t ht2).2.1, wr_of (by omega) (by omega), qdiv_of hm.1 (by omega) (by omega)]
theorem apart7 {σ : Hp} {w : Wv} {s j a b : Nat} {Y : Int} (e : σ s j = w) (hl : 48 ≤ alen s) (hw : WF Y w) (ha : (a : Int) < w 3) (hb : (b : Int) < w 3) : fX7_apartIn σ s j a b = some (apartW w a b, σ) := by
  have h3 := hw.2.2.2.1
  have h2 := hw.2.2.1
  obtain ⟨u1, u2, u3, u4⟩ := hw.2.2.2.2.2 a ha
  obtain ⟨v1, v2, v3, v4⟩ := hw.2.2.2.2.2 b hb
  have hbt := btw_in u3 v3
  have hla : (48 : Int) ≤ (alen s : Int) := by omega
  have e2 : ∀ c : Nat, c < 8 → wr (wr (16 + wr (4 * (c : Int))) + 2) = ((18 + 4 * c : Nat) : Int) := fun c hc => by
    rw [wr16c (by omega), wr_of (by omega) (by omega)]; omega
  have eb : fX7_between σ s j a b = some (btw (w (18 + 4 * a)) (w (18 + 4 * b)), σ) := by
    unfold fX7_between jX7_between_32 btw
    rw [e2 a (by omega), e2 b (by omega), gd_pos (by omega), gd_pos (by omega), Int.toNat_natCast, Int.toNat_natCast, e, wr_of (x := w (18 + 4 * a) - w (18 + 4 * b)) (by omega) (by omega), show -(w (18 + 4 * a) - w (18 + 4 * b)) = w (18 + 4 * b) - w (18 + 4 * a) by omega, wr_of (x := w (18 + 4 * b) - w (18 + 4 * a)) (by omega) (by omega)]
    by_cases c : 0 ≤ w (18 + 4 * a) - w (18 + 4 * b)
    · rw [if_pos c, if_pos c, wr_of (by omega) (by omega)]
      split <;> rfl
    · rw [if_neg c, if_neg c, wr_of (by omega) (by omega)]
      split <;> rfl
  unfold fX7_apartIn apartW
  obtain ⟨t, ht⟩ : ∃ t : Nat, w (16 + 4 * a) = t := ⟨(w (16 + 4 * a)).toNat, by omega⟩
  have ht2 : (t : Int) < w 2 := by omega
  have hg := (hw.2.2.2.2.1 t ht2).2.1
  have hm := mul_in hbt hg
  rw [eb, cl_pos, wr16c (by omega), gd_pos (by omega), Int.toNat_natCast, e, ht, (wr4u (by omega)).1, gd_pos (by omega), Int.toNat_natCast, Int.toNat_natCast, wr_of (by omega) (by omega), qdiv_of hm.1 (by omega) (by omega)]
theorem ofOne7 {σ : Hp} {Y : Int} {a b : Nat} (hw : WF Y (σ 27 0)) (ha : (a : Int) < σ 27 0 3) (hb : (b : Int) < σ 27 0 3) (hne : (a : Int) ≠ b) : fX7_areOfOne σ a b = some (if σ 27 0 (16 + 4 * a) = σ 27 0 (16 + 4 * b) then 1 else 0, σ) := by
  have h3 := hw.2.2.2.1
  unfold fX7_areOfOne
  rw [if_neg (fun z => (cut7_0 hw).mp z (by omega)), if_neg (fun z => (cut7_0 hw).mp z (by omega)), if_neg hne, wr16c (by omega), wr16c (by omega), gd_pos (by omega), gd_pos (by omega), Int.toNat_natCast, Int.toNat_natCast]
  split <;> rfl
theorem ok_apart {σ : Hp} (h : Sim σ) {a b : Int} : Ok (fun τ => fX6_apart τ a b) (fun τ => fX7_apart τ a b) σ := by
  obtain ⟨hR, hw⟩ := h.2.2.1.1
  have h3 := hw.2.2.2.1
  by_cases ha : 0 ≤ a ∧ a < σ 27 0 3
  case neg =>
    refine Ok.same (r := -1000001) h ?_ ?_
    · simp only [fX6_apart]; rw [if_pos ((cut6 hR).mpr ha)]
    · simp only [fX7_apart]; rw [if_pos ((cut7_0 hw).mpr ha)]
  by_cases hb : 0 ≤ b ∧ b < σ 27 0 3
  case neg =>
    refine Ok.same (r := -1000001) h ?_ ?_
    · simp only [fX6_apart]; rw [if_neg (fun z => (cut6 hR).mp z ha), if_pos ((cut6 hR).mpr hb)]
    · simp only [fX7_apart]; rw [if_neg (fun z => (cut7_0 hw).mp z ha), if_pos ((cut7_0 hw).mpr hb)]
  by_cases hne : a = b
  case pos =>
    refine Ok.same (r := -1000001) h ?_ ?_
    · simp only [fX6_apart]; rw [if_neg (fun z => (cut6 hR).mp z ha), if_neg (fun z => (cut6 hR).mp z hb), if_pos hne]
    · simp only [fX7_apart]; rw [if_neg (fun z => (cut7_0 hw).mp z ha), if_neg (fun z => (cut7_0 hw).mp z hb), if_pos hne]
  obtain ⟨a, rfl⟩ : ∃ k : Nat, a = k := ⟨a.toNat, by omega⟩
  obtain ⟨b, rfl⟩ : ∃ k : Nat, b = k := ⟨b.toNat, by omega⟩
  have e3 : ∀ c : Nat, c < 8 → wr (wr (16 + wr (4 * (c : Int))) + 3) = ((19 + 4 * c : Nat) : Int) := fun c hc => by
    rw [wr16c (by omega), wr_of (by omega) (by omega)]; omega
  refine Ok.same (r := if bothW (σ 27 0) a b then apartW (σ 27 0) a b else -1000000) h ?_ ?_
  · simp only [fX6_apart]
    rw [if_neg (fun z => (cut6 hR).mp z ha), if_neg (fun z => (cut6 hR).mp z hb), if_neg hne, both6 hR hw ha.2 hb.2, cl_pos]
    by_cases c : bothW (σ 27 0) a b
    · rw [if_pos c, if_pos c, if_neg (by omega), apart6 hR hw ha.2 hb.2]; rfl
    · rw [if_neg c, if_neg c, if_pos rfl]
  · simp only [fX7_apart]
    rw [if_neg (fun z => (cut7_0 hw).mp z ha), if_neg (fun z => (cut7_0 hw).mp z hb), if_neg hne, ofOne7 hw ha.2 hb.2 hne, cl_pos, e3 a (by omega), e3 b (by omega), gd_pos (by omega), gd_pos (by omega), Int.toNat_natCast, Int.toNat_natCast]
    have j0 : jX7_apart_70 σ a b 0 = some (-1000000, σ) := by unfold jX7_apart_70; rw [if_pos rfl]
    have j1 : jX7_apart_70 σ a b 1 = some (apartW (σ 27 0) a b, σ) := by
      unfold jX7_apart_70
      rw [if_neg (by omega), apart7 rfl (by show 48 ≤ 48; omega) hw ha.2 hb.2]; rfl
    rw [j0, j1]
    by_cases c1 : σ 27 0 (16 + 4 * a) = σ 27 0 (16 + 4 * b)
    · rw [if_pos c1, if_neg (by omega)]
      by_cases c2 : σ 27 0 (19 + 4 * a) ≤ 0
      · rw [if_pos c2, if_neg (by omega)]
      rw [if_neg c2]
      by_cases c3 : σ 27 0 (19 + 4 * b) ≤ 0
      · rw [if_pos c3, if_neg (by omega)]
      · rw [if_neg c3, if_pos (by omega)]
    · rw [if_neg c1, if_pos rfl, if_neg (fun z => c1 z.1)]
