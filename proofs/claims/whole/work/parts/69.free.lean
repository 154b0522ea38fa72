/-! free -/
abbrev TgN (u : Wv) (a b : Nat) : Prop := TgW u (onW u (u (16 + 4 * a))) a b
noncomputable def freeS (a b : Nat) : Nat → Int → Wv → Int
  | 0, _, _ => -1000000
  | d + 1, c, u => @ite Int (TgN u a b) (Classical.propDecidable _) (freeS a b d (c + 1) (stepW u)) c
theorem freeS_1 {a b d : Nat} {c : Int} {u : Wv} (h : TgN u a b) : freeS a b (d + 1) c u = freeS a b d (c + 1) (stepW u) := if_pos h
theorem freeS_0 {a b d : Nat} {c : Int} {u : Wv} (h : ¬ TgN u a b) : freeS a b (d + 1) c u = c := if_neg h
theorem free6_l {a b : Nat} (hne : a ≠ b) : ∀ (d c n : Nat) {Y : Int} (σ : Hp) (u : Wv), c + d = 51 → d + 1 ≤ n → WF Y u → Y + d < 99999 → RelW σ 1 u → (a : Int) < u 3 → (b : Int) < u 3 →
    ∃ σ', lX6_free_25 n σ a b c = some (freeS a b d c u, σ') ∧ (∀ s j, ¬ (isW s ∧ j = 1) → s ≠ 10 → σ' s j = σ s j) ∧ (σ' 5 1 7 = 0 ∨ σ' 5 1 7 = 1) := by
  intro d
  induction d with
  | zero =>
    intro c n Y σ u hc hn hw hY hR ha hb
    obtain ⟨n, rfl⟩ : ∃ m, n = m + 1 := ⟨n - 1, by omega⟩
    exact ⟨σ, by rw [lX6_free_25_e0, if_pos (by omega)]; rfl, fun _ _ _ _ => rfl, hR.told⟩
  | succ d ih =>
    intro c n Y σ u hc hn hw hY hR ha hb
    obtain ⟨n, rfl⟩ : ∃ m, n = m + 1 := ⟨n - 1, by omega⟩
    have e5 : wr ((c : Int) + 1) = (c : Int) + 1 := wr_of (by omega) (by omega)
    obtain ⟨r, e1, r1, i1⟩ := tog6 hR hw ha hb hne
    rw [lX6_free_25_e0, if_neg (by omega), e1, cl_pos, e5]
    by_cases q : TgN u a b
    · have hr : r = 1 := i1.mpr q
      obtain ⟨σ1, e2, R2, o2⟩ := year5_sp hw (by omega) (hR.row10 (lkW u (σ 10 0)))
      rw [if_neg (by omega), e2, cl_pos, freeS_1 q]
      obtain ⟨σ2, e3, o3, t3⟩ := ih (c + 1) n σ1 (stepW u) (by omega) (by omega) (stepW_WF hw) (by omega) R2 (by rw [stepW_lo u (by omega) (by omega)]; exact ha) (by rw [stepW_lo u (by omega) (by omega)]; exact hb)
      rw [show ((c + 1 : Nat) : Int) = (c : Int) + 1 by omega] at e3
      exact ⟨σ2, e3, fun s j hs h10 => by rw [o3 s j hs h10, o2 s j hs, srow_ne (fun z => h10 z.1)], t3⟩
    · have hr : r = 0 := by
        rcases r1 with z | z
        · exact z
        · exact absurd (i1.mp z) q
      rw [if_pos hr, freeS_0 q]
      exact ⟨_, rfl, fun s j _ h10 => srow_ne (fun z => h10 z.1), by rw [srow_ne (by omega)]; exact hR.told⟩
theorem free7_l {a b : Nat} (τ : Hp) : ∀ (d c n : Nat) {Y : Int} (u : Wv), c + d = 51 → d + 1 ≤ n → WF Y u → Y + d < 99999 → (a : Int) < u 3 → (b : Int) < u 3 →
    ∃ u', lX7_free_19 n (srow τ 32 0 u) a b c = some (freeS a b d c u, srow τ 32 0 u') := by
  intro d
  induction d with
  | zero =>
    intro c n Y u hc hn hw hY ha hb
    obtain ⟨n, rfl⟩ : ∃ m, n = m + 1 := ⟨n - 1, by omega⟩
    exact ⟨u, by rw [lX7_free_19_e0, if_pos (by omega)]; rfl⟩
  | succ d ih =>
    intro c n Y u hc hn hw hY ha hb
    obtain ⟨n, rfl⟩ : ∃ m, n = m + 1 := ⟨n - 1, by omega⟩
    have e5 : wr ((c : Int) + 1) = (c : Int) + 1 := wr_of (by omega) (by omega)
    obtain ⟨r, e1, r1, i1⟩ := tog7 (σ := srow τ 32 0 u) (s := 32) (j := 0) (g := 0) (srow_at _ _ _ _) (by show 48 ≤ 48; omega) hw ha hb (by omega)
    have e1' : fX7_areTogether (srow τ 32 0 u) 32 0 a b 0 = some (r, srow τ 32 0 u) := e1
    rw [nd_0] at i1
    rw [lX7_free_19_e0, if_neg (by omega), e1', cl_pos, e5]
    by_cases q : TgN u a b
    · have hr : r = 1 := i1.mpr q
      have ep := passes_sp (srow τ 32 0 u) (s := 32) (j := 0) (Y := Y) rfl (by rw [srow_at]; exact hw) (by omega)
      rw [srow_at, srow_srow] at ep
      rw [if_neg (by omega), ep, cl_pos, freeS_1 q]
      obtain ⟨u', e3⟩ := ih (c + 1) n (stepW u) (by omega) (by omega) (stepW_WF hw) (by omega) (by rw [stepW_lo u (by omega) (by omega)]; exact ha) (by rw [stepW_lo u (by omega) (by omega)]; exact hb)
      rw [show ((c + 1 : Nat) : Int) = (c : Int) + 1 by omega] at e3
      exact ⟨u', e3⟩
    · have hr : r = 0 := by
        rcases r1 with z | z
        · exact z
        · exact absurd (i1.mp z) q
      rw [if_pos hr, freeS_0 q]
      exact ⟨u, rfl⟩
theorem ok_free {σ : Hp} (h : Sim σ) {a b : Int} : Ok (fun τ => fX6_free τ a b) (fun τ => fX7_free τ a b) σ := by
  obtain ⟨hR, hw⟩ := h.2.2.1.1
  rcases pair_sp h a b with ⟨p1, p2⟩ | ⟨x, y, rfl, rfl, hx, hy, hne, -, p1, p2⟩
  · refine Ok.same (r := -1000001) h ?_ ?_
    · simp only [fX6_free]; rw [p1, cl_pos, if_pos rfl]
    · simp only [fX7_free]; rw [p2 σ rfl, cl_pos, if_pos rfl]
  obtain ⟨σ1, e1, o1, R1⟩ := fore6 h
  have v3 : foreV σ 3 = σ 27 0 3 := (foreV_agr σ 3 (by omega)).symm
  obtain ⟨σ2, e2, o2, t2⟩ := free6_l hne 51 0 FU σ1 (foreV σ) (by omega) (by rw [FU_eq]; omega) (foreV_WF h) (by omega) R1 (by rw [v3]; exact hx) (by rw [v3]; exact hy)
  have n10 : ∀ s, (s = 27 ∨ s = 32) → s ≠ 10 := fun s hs => by omega
  have e27 : σ2 27 0 = σ 27 0 := (o2 27 0 (fun z => nw27 z.1) (by omega)).trans (o1 27 0 (fun z => nw27 z.1))
  have e32 : σ2 32 0 = σ 32 0 := (o2 32 0 (fun z => nw32 z.1) (by omega)).trans (o1 32 0 (fun z => nw32 z.1))
  obtain ⟨u', e3⟩ := free7_l (a := x) (b := y) σ2 51 0 FU (foreV σ) (by omega) (by rw [FU_eq]; omega) (foreV_WF h) (by omega) (by rw [v3]; exact hx) (by rw [v3]; exact hy)
  have e2' : lX6_free_25 FU σ1 x y 0 = some (freeS x y 51 0 (foreV σ), σ2) := e2
  have e3' : lX7_free_19 FU (srow σ2 32 0 (foreV σ)) x y 0 = some (freeS x y 51 0 (foreV σ), srow σ2 32 0 u') := e3
  have hS2 : Sim σ2 := h.off (fun s j hn => by
    rw [o2 s j (fun z => hn (Or.inl z)) (fun z => hn (Or.inr (Or.inl z)))]
    exact o1 s j (fun z => hn (Or.inl z))) t2
  have et := tries7 h e27 e32 (d := 0) (by omega)
  have et' : fX7_tries σ2 0 = some (0, srow σ2 32 0 (foreV σ)) := et
  refine ⟨freeS x y 51 0 (foreV σ), σ2, srow σ2 32 0 u', ?_, ?_, hS2.t32 _⟩
  · simp only [fX6_free]
    rw [p1, cl_pos, if_neg (by omega), e1, cl_pos, e2']
  · simp only [fX7_free]
    rw [p2 σ2 e27, cl_pos, if_neg (by omega), et', cl_pos, e3']
/-! a depth alone -/
theorem depthIn7_l {σ : Hp} {w : Wv} {Y : Int} {t D : Nat} (e : σ 27 0 = w) (hw : WF Y w) (hY : Y < 2000) (hD : D < 1000) (ht : (t : Int) < w 2) : ∀ (d c n : Nat) (its g : Int), c + d = D → d + 1 ≤ n → 0 ≤ its ∧ its ≤ 20 → 0 ≤ g ∧ g ≤ 999 →
    lX7_depthIn_24 n σ D ((4 + 3 * t : Nat) : Int) its g c = some (clip its (los (w (4 + 3 * t)) (w (6 + 3 * t)) d (w 1 + c) g), σ) := by
  have h2 := hw.2.2.1
  have h1 := hw.2.1
  obtain ⟨b1, b2, b3⟩ := hw.2.2.2.2.1 t ht
  intro d
  induction d with
  | zero =>
    intro c n its g hc hn hi hg
    obtain ⟨n, rfl⟩ : ∃ m, n = m + 1 := ⟨n - 1, by omega⟩
    have ec : clip its (los (w (4 + 3 * t)) (w (6 + 3 * t)) 0 (w 1 + c) g) = its := by
      show (if its ≤ 0 then 0 else its - 0) = its
      split <;> omega
    rw [lX7_depthIn_24_e0, if_pos (by omega), ec]
  | succ d ih =>
    intro c n its g hc hn hi hg
    obtain ⟨n, rfl⟩ : ∃ m, n = m + 1 := ⟨n - 1, by omega⟩
    have e5 : wr ((c : Int) + 1) = ((c + 1 : Nat) : Int) := by rw [wr_of (by omega) (by omega)]; omega
    have ey : wr (w 1 + (c : Int)) = w 1 + c := wr_of (by omega) (by omega)
    have e6 : wr (((4 + 3 * t : Nat) : Int) + 2) = ((6 + 3 * t : Nat) : Int) := by rw [wr_of (by omega) (by omega)]; omega
    have hgr := growS_in (k := w (4 + 3 * t)) (y := w 1 + c) b3.1 b3.2 hg.1 hg.2
    have hh := healS_in (w (4 + 3 * t)) (growS (w (4 + 3 * t)) (w (6 + 3 * t)) g (w 1 + c)) (w 1 + c)
    have hL := los_0 (w (4 + 3 * t)) (w (6 + 3 * t)) d (w 1 + c + 1) (g + growS (w (4 + 3 * t)) (w (6 + 3 * t)) g (w 1 + c))
    have eL : los (w (4 + 3 * t)) (w (6 + 3 * t)) (d + 1) (w 1 + c) g = healS (w (4 + 3 * t)) (growS (w (4 + 3 * t)) (w (6 + 3 * t)) g (w 1 + c)) (w 1 + c) + los (w (4 + 3 * t)) (w (6 + 3 * t)) d (w 1 + c + 1) (g + growS (w (4 + 3 * t)) (w (6 + 3 * t)) g (w 1 + c)) := rfl
    rw [lX7_depthIn_24_e0, if_neg (by omega), eL]
    by_cases q : its ≤ 0
    · rw [if_pos q]
      congr 2
      unfold clip
      split <;> omega
    rw [if_neg q, e, e5, e6, ey, gd_pos (by omega), gd_pos (by omega), gd_pos (by omega), Int.toNat_natCast, Int.toNat_natCast, grow7 b3.1 b3.2 (by omega) (by omega) hg.1 hg.2, heal7 (by omega) (by omega), wr_of (x := g + growS (w (4 + 3 * t)) (w (6 + 3 * t)) g (w 1 + c)) (by omega) (by omega)]
    have iht := fun i hi => ih (c + 1) n i (g + growS (w (4 + 3 * t)) (w (6 + 3 * t)) g (w 1 + c)) (by omega) (by omega) hi (by omega)
    rw [show w 1 + ((c + 1 : Nat) : Int) = w 1 + c + 1 by omega] at iht
    by_cases q2 : healS (w (4 + 3 * t)) (growS (w (4 + 3 * t)) (w (6 + 3 * t)) g (w 1 + c)) (w 1 + c) = 0
    · rw [if_pos q2, wr_of (by omega) (by omega), iht _ (by omega), q2]
      congr 2
      rw [Int.sub_zero, Int.zero_add]
    · rw [if_neg q2, wr_of (by omega) (by omega), iht _ (by omega), show healS (w (4 + 3 * t)) (growS (w (4 + 3 * t)) (w (6 + 3 * t)) g (w 1 + c)) (w 1 + c) = 1 by omega]
      congr 2
      generalize los (w (4 + 3 * t)) (w (6 + 3 * t)) d (w 1 + c + 1) (g + growS (w (4 + 3 * t)) (w (6 + 3 * t)) g (w 1 + c)) = L at hL ⊢
      unfold clip
      split <;> split <;> omega
theorem depthIn7 {σ : Hp} {w : Wv} {Y : Int} {t D : Nat} {its : Int} (e : σ 27 0 = w) (hw : WF Y w) (hY : Y < 2000) (hD : D < 1000) (ht : (t : Int) < w 2) (hi : 0 ≤ its ∧ its ≤ 20) :
    fX7_depthIn σ t its D = some (clip its (los (w (4 + 3 * t)) (w (6 + 3 * t)) D (w 1) (w (5 + 3 * t))), σ) := by
  have h2 := hw.2.2.1
  obtain ⟨b1, b2, b3⟩ := hw.2.2.2.2.1 t ht
  have hl := depthIn7_l e hw hY hD ht D 0 FU its (w (5 + 3 * t)) (by omega) (by rw [FU_eq]; omega) hi b2
  rw [show w 1 + ((0 : Nat) : Int) = w 1 by omega] at hl
  unfold fX7_depthIn
  rw [(wr4u (by omega)).1, wr4t (by omega), gd_pos (by omega), Int.toNat_natCast, e]
  exact hl
/-! the tried wood without cuts -/
theorem up1_3 {w : Wv} {v : Int} {k : Nat} (h : k ≠ 3) : up1 w 3 v k = w k := up1_ne h
theorem RelW.cuts0 {σ : Hp} {j : Nat} {w : Wv} (h : RelW σ j w) : RelW (hup σ 5 j 11 0) j (up1 w 3 0) := by
  obtain ⟨a1, a2, a3, a4, a5, a6, a7⟩ := h
  unfold RelW
  rw [up1_at, up1_ne (x := 0) (by omega), up1_ne (x := 1) (by omega), up1_ne (x := 2) (by omega)]
  simp (disch := omega) only [hup_s, hup_k, hup_at]
  refine ⟨a1, a2, a3, a4, trivial, fun t ht => ?_, fun i hi => by omega⟩
  rw [up1_ne (by omega), up1_ne (by omega), up1_ne (by omega)]
  exact a6 t ht
theorem WF.cuts0 {Y : Int} {w : Wv} (h : WF Y w) : WF Y (up1 w 3 0) := by
  obtain ⟨h0, h1, h2, h3, h4, h5⟩ := h
  unfold WF
  rw [up1_at, up1_ne (x := 0) (by omega), up1_ne (x := 1) (by omega), up1_ne (x := 2) (by omega)]
  refine ⟨h0, h1, h2, by omega, fun t ht => ?_, fun i hi => by omega⟩
  rw [up1_ne (by omega), up1_ne (by omega), up1_ne (by omega)]
  exact h4 t ht
theorem deep7_l {σ : Hp} {w : Wv} {Y L : Int} {t D : Nat} (e : σ 27 0 = w) (hw : WF Y w) (hY : Y < 2000) (hD : D < 1000) (ht : (t : Int) < w 2) (hL : los (w (4 + 3 * t)) (w (6 + 3 * t)) D (w 1) (w (5 + 3 * t)) = L) : ∀ (d c n : Nat), c + d = 21 → 1 ≤ c → (c : Int) ≤ L + 1 → d + 1 ≤ n →
    lX7_deep_20 n σ t D c = some (if 20 ≤ L then -1000000 else L + 1, σ) := by
  intro d
  induction d with
  | zero =>
    intro c n hc h1 hc2 hn
    obtain ⟨n, rfl⟩ : ∃ m, n = m + 1 := ⟨n - 1, by omega⟩
    rw [lX7_deep_20_e0, if_pos (by omega), if_pos (by omega)]
  | succ d ih =>
    intro c n hc h1 hc2 hn
    obtain ⟨n, rfl⟩ : ∃ m, n = m + 1 := ⟨n - 1, by omega⟩
    have e5 : wr ((c : Int) + 1) = ((c + 1 : Nat) : Int) := by rw [wr_of (by omega) (by omega)]; omega
    rw [lX7_deep_20_e0, if_neg (by omega), depthIn7 e hw hY hD ht (by omega), cl_pos, hL, e5]
    unfold clip
    by_cases q : (c : Int) ≤ L
    · rw [if_pos q, if_pos (by omega)]
      exact ih (c + 1) n (by omega) (by omega) (by omega) (by omega)
    · rw [if_neg q, if_neg (by omega), if_neg (by omega)]
      congr 2
      omega
theorem ok_deep {σ : Hp} (h : Sim σ) {a b : Int} : Ok (fun τ => fX6_deep τ a b) (fun τ => fX7_deep τ a b) σ := by
  obtain ⟨hR, hw⟩ := h.2.2.1.1
  have h2 := hw.2.2.1
  by_cases ha : 0 ≤ a ∧ a < σ 27 0 2
  case neg =>
    refine Ok.same (r := -1000001) h ?_ ?_
    · simp only [fX6_deep]; rw [if_pos ((tree6 hR).mpr ha)]
    · simp only [fX7_deep]; rw [if_pos ((tree7 hw).mpr ha)]
  by_cases hb : 0 ≤ b ∧ b ≤ 50
  case neg =>
    refine Ok.same (r := -1000001) h ?_ ?_
    · simp only [fX6_deep]; rw [if_neg (fun z => (tree6 hR).mp z ha), if_pos (fore6_0.mpr hb)]
    · simp only [fX7_deep]; rw [if_neg (fun z => (tree7 hw).mp z ha), if_pos (far7_0.mpr hb)]
  obtain ⟨t, rfl⟩ : ∃ k : Nat, a = k := ⟨a.toNat, by omega⟩
  obtain ⟨d, rfl⟩ : ∃ k : Nat, b = k := ⟨b.toNat, by omega⟩
  obtain ⟨L, hL⟩ : ∃ L, los (σ 27 0 (4 + 3 * t)) (σ 27 0 (6 + 3 * t)) d (σ 27 0 1) (σ 27 0 (5 + 3 * t)) = L := ⟨_, rfl⟩
  have hL0 : 0 ≤ L := by rw [← hL]; exact los_0 _ _ _ _ _
  obtain ⟨σ1, e1, R1⟩ := become_rel (j0 := 1) hR hw
  obtain ⟨o1, R1⟩ := R1
  have R2 := R1.cuts0
  have W2 := hw.cuts0
  have z3 : up1 (σ 27 0) 3 0 3 = 0 := up1_at _ _ _
  obtain ⟨σ3, e3, R3, o3⟩ := addCut6 (a := (t : Int)) (b := 0) (c := 0) (d := 20) R2 W2 (by omega)
  have W3 : WF 999 (addW (up1 (σ 27 0) 3 0) t 0 0 20) := W2.add (by omega) (by rw [up1_ne (by omega)]; exact ha) (by omega) (by omega) (by omega)
  obtain ⟨σ4, e4, R4, o4⟩ := years6_sp W3 (d := d) (by omega) R3
  have z0 : (up1 (σ 27 0) 3 0 3).toNat = 0 := by omega
  obtain ⟨q1, q2, q3, q4⟩ := addW_new (up1 (σ 27 0) 3 0) t 0 0 20
  rw [z0] at q1 q2 q3 q4
  have c3 : addW (up1 (σ 27 0) 3 0) t 0 0 20 3 = 1 := by rw [addW_3, z3]; rfl
  have lo : ∀ k, k ≠ 3 → k < 16 → addW (up1 (σ 27 0) 3 0) t 0 0 20 k = σ 27 0 k := fun k h3 h16 => by rw [addW_lo _ _ _ _ _ h3 h16, up1_ne h3]
  have hd := yrs_depth d (c := 0) (t := t) W3 (by rw [c3]; omega) q1
  rw [q4, lo (4 + 3 * t) (by omega) (by omega), lo (6 + 3 * t) (by omega) (by omega), lo (5 + 3 * t) (by omega) (by omega), lo 1 (by omega) (by omega), hL] at hd
  have s4 : σ4 19 1 0 = clip 20 L := by
    rw [(R4.2.2.2.2.2.2 0 (by rw [yrs_lo d _ (by omega) (by omega), c3]; omega)).2.2.2]
    exact hd
  have off : ∀ s j, ¬ (isW s ∧ j = 1) → σ4 s j = σ s j := fun s j hs => by
    rw [o4 s j hs, o3 s j hs, hup_row, srow_ne (fun z => hs ⟨by rw [z.1]; exact Or.inl rfl, z.2⟩), o1 s j hs]
  have e27 : σ4 27 0 = σ 27 0 := off 27 0 (fun z => nw27 z.1)
  have e7 := deep7_l (σ := σ4) (w := σ 27 0) (t := t) (D := d) e27 hw (by omega) (by omega) ha.2 hL 20 1 FU (by omega) (by omega) (by omega) (by rw [FU_eq]; omega)
  have e7' : lX7_deep_20 FU σ4 t d 1 = some (if 20 ≤ L then -1000000 else L + 1, σ4) := e7
  refine ⟨if 20 ≤ L then -1000000 else L + 1, σ4, σ4, ?_, ?_, h.w1 off R4⟩
  · simp only [fX6_deep]
    rw [if_neg (fun z => (tree6 hR).mp z ha), if_neg (fun z => fore6_0.mp z hb), e1, cl_pos]
    simp only [sq]
    rw [e3, cl_pos, e4, cl_pos, s4]
    unfold clip
    by_cases q : 20 ≤ L
    · rw [if_pos q, if_pos q, if_pos rfl]
    · rw [if_neg q, if_neg q, if_neg (by omega), wr_of (x := 20 - (20 - L)) (by omega) (by omega), wr_of (by omega) (by omega), show 20 - (20 - L) + 1 = L + 1 by omega]
  · simp only [fX7_deep]
    rw [if_neg (fun z => (tree7 (σ := σ4) (by rw [e27]; exact hw)).mp z (by rw [e27]; exact ha)), if_neg (fun z => far7_0.mp z hb), e7']
