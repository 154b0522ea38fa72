/-! foretold -/
theorem Sim.w1 {σ σ1 : Hp} {w : Wv} (h : Sim σ) (o : ∀ s j, ¬ (isW s ∧ j = 1) → σ1 s j = σ s j) (R : RelW σ1 1 w) : Sim σ1 := h.off (fun s j hn => o s j (fun z => hn (Or.inl z))) R.told
theorem Sim.t32 {σ : Hp} (h : Sim σ) (f : Nat → Int) : Sim (srow σ 32 0 f) := h.off (fun s j hn => srow_ne (fun z => hn (Or.inr (Or.inr (Or.inl z.1))))) (by rw [srow_ne (by omega)]; exact h.2.2.2.2.2.2 1 (by omega))
def foreV (σ : Hp) : Wv := filG (σ 32 0) 0 (0 + 48) (fun x => σ 27 0 (0 + (x - 0)))
theorem foreV_agr (σ : Hp) : agr (σ 27 0) (foreV σ) := by
  intro x hx
  unfold foreV filG
  rw [if_pos (by omega)]
  dsimp only
  rw [show 0 + (x - 0) = x by omega]
theorem foreV_WF {σ : Hp} (h : Sim σ) : WF 999 (foreV σ) := h.2.2.1.1.2.agr (foreV_agr σ)
theorem fore6 {σ : Hp} (h : Sim σ) : ∃ σ1, fX5_become σ 1 0 = some (0, σ1) ∧ (∀ s j, ¬ (isW s ∧ j = 1) → σ1 s j = σ s j) ∧ RelW σ1 1 (foreV σ) := by
  obtain ⟨hR, hw⟩ := h.2.2.1.1
  obtain ⟨σ1, e1, o1, R1⟩ := become_rel (j0 := 1) hR hw
  exact ⟨σ1, e1, o1, R1.agr hw (foreV_agr σ)⟩
theorem fore7 {σ τ : Hp} (e27 : τ 27 0 = σ 27 0) (e32 : τ 32 0 = σ 32 0) : fX7_copies τ 27 0 0 32 0 0 = some (0, srow τ 32 0 (foreV σ)) := by
  have ec := copies_sp τ (s1 := 27) (j1 := 0) (s2 := 32) (j2 := 0) (A := 0) (B := 0) (by show 0 + 48 ≤ 48; omega) (by show 0 + 48 ≤ 48; omega) (by omega) (by omega) (by omega)
  rw [e27, e32] at ec
  exact ec
def yrs : Nat → Wv → Wv
  | 0, w => w
  | n + 1, w => yrs n (stepW w)
theorem stepW_lo (w : Wv) {k : Nat} (h1 : k ≠ 1) (h : k < 4) : stepW w k = w k := by rw [stepW_ne w h1, stepG_low _ _ _ _ h]
theorem stepW_kind (w : Wv) {t : Nat} (h : t < 4) : stepW w (4 + 3 * t) = w (4 + 3 * t) := by rw [stepW_ne w (by omega), stepG_kind _ _ _ _ h]
theorem stepW_sun (w : Wv) {t : Nat} (h : t < 4) : stepW w (6 + 3 * t) = w (6 + 3 * t) := by rw [stepW_ne w (by omega), stepG_sun _ _ _ _ h]
theorem stepW_girth (w : Wv) {t : Nat} (h : t < 4) (ht : (t : Int) < w 2) : stepW w (5 + 3 * t) = w (5 + 3 * t) + grewW w t := by rw [stepW_ne w (by omega), stepG_girth _ _ _ _ h, if_pos ht]
theorem stepW_cut (w : Wv) (c i : Nat) (h : i < 3) : stepW w (16 + 4 * c + i) = w (16 + 4 * c + i) := by rw [stepW_ne w (by omega), stepG_cut _ _ _ _ _ _ h]
theorem stepW_depth {w : Wv} {Y : Int} (hw : WF Y w) {c : Nat} (hc : (c : Int) < w 3) : stepW w (19 + 4 * c) = if healW w (w (16 + 4 * c)).toNat ≠ 0 ∧ 0 < w (19 + 4 * c) then w (19 + 4 * c) - 1 else w (19 + 4 * c) := by
  have ht := (hw.2.2.2.2.2 c hc).1
  rw [stepW_ne w (by omega), stepG_depth]
  by_cases q : healW w (w (16 + 4 * c)).toNat ≠ 0 ∧ 0 < w (19 + 4 * c)
  · rw [if_pos q, if_pos ⟨hc, Or.inl ht.2, q⟩]
  · rw [if_neg q, if_neg (fun z => q z.2.2)]
theorem yrs_WF : ∀ (n : Nat) {Y : Int} {w : Wv}, WF Y w → WF (Y + n) (yrs n w) := by
  intro n
  induction n with
  | zero => intro Y w h; exact h.up (by omega)
  | succ n ih => intro Y w h; exact (ih (stepW_WF h)).up (by omega)
theorem yrs_lo : ∀ (n : Nat) (w : Wv) {k : Nat}, k ≠ 1 → k < 4 → yrs n w k = w k := by
  intro n
  induction n with
  | zero => intro w k _ _; rfl
  | succ n ih => intro w k h1 h; exact (ih (stepW w) h1 h).trans (stepW_lo w h1 h)
theorem yrs_cut : ∀ (n : Nat) (w : Wv) (c i : Nat), i < 3 → yrs n w (16 + 4 * c + i) = w (16 + 4 * c + i) := by
  intro n
  induction n with
  | zero => intro w c i _; rfl
  | succ n ih => intro w c i h; exact (ih (stepW w) c i h).trans (stepW_cut w c i h)
theorem yrs_succ : ∀ (n : Nat) (w : Wv), yrs (n + 1) w = stepW (yrs n w) := by
  intro n
  induction n with
  | zero => intro w; rfl
  | succ n ih => intro w; exact ih (stepW w)
/-- GIRTH after d years; DEPTH lost by then -/
def grt (k su : Int) : Nat → Int → Int → Int
  | 0, _, g => g
  | d + 1, y, g => grt k su d (y + 1) (g + growS k su g y)
def los (k su : Int) : Nat → Int → Int → Int
  | 0, _, _ => 0
  | d + 1, y, g => healS k (growS k su g y) y + los k su d (y + 1) (g + growS k su g y)
def clip (x L : Int) : Int := if x ≤ L then 0 else x - L
theorem los_0 (k su : Int) : ∀ (d : Nat) (y g : Int), 0 ≤ los k su d y g := by
  intro d
  induction d with
  | zero => intro y g; exact Int.le_refl _
  | succ d ih =>
    intro y g
    have h1 := ih (y + 1) (g + growS k su g y)
    have h2 := healS_in k (growS k su g y) y
    show 0 ≤ healS k (growS k su g y) y + los k su d (y + 1) (g + growS k su g y)
    omega
theorem los_up (k su : Int) : ∀ (d : Nat) (y g : Int), los k su d y g ≤ los k su (d + 1) y g := by
  intro d
  induction d with
  | zero => intro y g; exact los_0 k su 1 y g
  | succ d ih =>
    intro y g
    have h1 := ih (y + 1) (g + growS k su g y)
    show healS k (growS k su g y) y + los k su d (y + 1) (g + growS k su g y) ≤ healS k (growS k su g y) y + los k su (d + 1) (y + 1) (g + growS k su g y)
    omega
theorem grt_in (k : Int) {su : Int} (h1 : 0 ≤ su) (h2 : su ≤ 9) : ∀ (d : Nat) (y g : Int), 0 ≤ g → g ≤ 999 → g ≤ grt k su d y g ∧ grt k su d y g ≤ 999 := by
  intro d
  induction d with
  | zero => intro y g h3 h4; exact ⟨Int.le_refl _, h4⟩
  | succ d ih =>
    intro y g h3 h4
    have hg := growS_in (k := k) (y := y) h1 h2 h3 h4
    have := ih (y + 1) (g + growS k su g y) (by omega) (by omega)
    show g ≤ grt k su d (y + 1) (g + growS k su g y) ∧ grt k su d (y + 1) (g + growS k su g y) ≤ 999
    omega
theorem grt_up (k : Int) {su : Int} (h1 : 0 ≤ su) (h2 : su ≤ 9) : ∀ (d : Nat) (y g : Int), 0 ≤ g → g ≤ 999 → grt k su d y g ≤ grt k su (d + 1) y g := by
  intro d
  induction d with
  | zero => intro y g h3 h4; exact (grt_in k h1 h2 1 y g h3 h4).1
  | succ d ih =>
    intro y g h3 h4
    have hg := growS_in (k := k) (y := y) h1 h2 h3 h4
    exact ih (y + 1) (g + growS k su g y) (by omega) (by omega)
theorem yrs_girth : ∀ (d : Nat) {Y : Int} {w : Wv} {t : Nat}, WF Y w → (t : Int) < w 2 → yrs d w (5 + 3 * t) = grt (w (4 + 3 * t)) (w (6 + 3 * t)) d (w 1) (w (5 + 3 * t)) := by
  intro d
  induction d with
  | zero => intro Y w t _ _; rfl
  | succ d ih =>
    intro Y w t hw ht
    have h2 := hw.2.2.1
    have := ih (t := t) (stepW_WF hw) (by rw [stepW_lo w (by omega) (by omega)]; exact ht)
    rw [stepW_kind w (by omega), stepW_sun w (by omega), stepW_girth w (by omega) ht, stepW_1] at this
    exact this
theorem yrs_depth : ∀ (d : Nat) {Y : Int} {w : Wv} {c t : Nat}, WF Y w → (c : Int) < w 3 → w (16 + 4 * c) = t → yrs d w (19 + 4 * c) = clip (w (19 + 4 * c)) (los (w (4 + 3 * t)) (w (6 + 3 * t)) d (w 1) (w (5 + 3 * t))) := by
  intro d
  induction d with
  | zero =>
    intro Y w c t hw hc _
    have hd := (hw.2.2.2.2.2 c hc).2.2.2
    show w (19 + 4 * c) = if w (19 + 4 * c) ≤ 0 then 0 else w (19 + 4 * c) - 0
    split <;> omega
  | succ d ih =>
    intro Y w c t hw hc hct
    have h2 := hw.2.2.1
    have hd := (hw.2.2.2.2.2 c hc).2.2.2
    have ht := (hw.2.2.2.2.2 c hc).1
    rw [hct] at ht
    have e0 := stepW_cut w c 0 (by omega)
    rw [Nat.add_zero] at e0
    have := ih (c := c) (t := t) (stepW_WF hw) (by rw [stepW_lo w (by omega) (by omega)]; exact hc) (by rw [e0]; exact hct)
    rw [stepW_kind w (by omega), stepW_sun w (by omega), stepW_girth w (by omega) ht.2, stepW_1, stepW_depth hw hc, hct, Int.toNat_natCast] at this
    refine Eq.trans this ?_
    have hh := healS_in (w (4 + 3 * t)) (grewW w t) (w 1)
    have eh : healW w t = healS (w (4 + 3 * t)) (grewW w t) (w 1) := rfl
    show clip (if healW w t ≠ 0 ∧ 0 < w (19 + 4 * c) then w (19 + 4 * c) - 1 else w (19 + 4 * c)) (los (w (4 + 3 * t)) (w (6 + 3 * t)) d (w 1 + 1) (w (5 + 3 * t) + grewW w t)) = clip (w (19 + 4 * c)) (healS (w (4 + 3 * t)) (grewW w t) (w 1) + los (w (4 + 3 * t)) (w (6 + 3 * t)) d (w 1 + 1) (w (5 + 3 * t) + grewW w t))
    have hL := los_0 (w (4 + 3 * t)) (w (6 + 3 * t)) d (w 1 + 1) (w (5 + 3 * t) + grewW w t)
    rw [eh]
    generalize los (w (4 + 3 * t)) (w (6 + 3 * t)) d (w 1 + 1) (w (5 + 3 * t) + grewW w t) = L at hL ⊢
    generalize healS (w (4 + 3 * t)) (grewW w t) (w 1) = hh' at hh ⊢
    generalize w (19 + 4 * c) = x at hd ⊢
    unfold clip
    repeat' split
    all_goals omega
theorem years6 {j : Nat} : ∀ (d c n D : Nat) {Y : Int} (σ : Hp) (w : Wv), c + d = D → d + 1 ≤ n → D < 100000 → WF Y w → Y + d < 99999 → RelW σ j w →
    ∃ σ', lX5_passYears_2 n σ j D c = some (0, σ') ∧ RelW σ' j (yrs d w) ∧ ∀ s' j', ¬ (isW s' ∧ j' = j) → σ' s' j' = σ s' j' := by
  intro d
  induction d with
  | zero =>
    intro c n D Y σ w hc hn hD hw hY hR
    obtain ⟨n, rfl⟩ : ∃ m, n = m + 1 := ⟨n - 1, by omega⟩
    exact ⟨σ, by rw [lX5_passYears_2_e0, if_pos (by omega)], hR, fun _ _ _ => rfl⟩
  | succ d ih =>
    intro c n D Y σ w hc hn hD hw hY hR
    obtain ⟨n, rfl⟩ : ∃ m, n = m + 1 := ⟨n - 1, by omega⟩
    have e5 : wr ((c : Int) + 1) = ((c + 1 : Nat) : Int) := by rw [wr_of (by omega) (by omega)]; omega
    obtain ⟨σ1, e1, R1, o1⟩ := year5_sp hw (by omega) hR
    obtain ⟨σ2, e2, R2, o2⟩ := ih (c + 1) n D σ1 (stepW w) (by omega) (by omega) hD (stepW_WF hw) (by omega) R1
    refine ⟨σ2, ?_, R2, fun s' j' h => (o2 s' j' h).trans (o1 s' j' h)⟩
    rw [lX5_passYears_2_e0, if_neg (by omega), e1, cl_pos, e5]
    exact e2
theorem years6_sp {σ : Hp} {j : Nat} {w : Wv} {d : Nat} (hw : WF 999 w) (hd : d ≤ 50) (hR : RelW σ j w) : ∃ σ', fX5_passYears σ j d = some (0, σ') ∧ RelW σ' j (yrs d w) ∧ ∀ s' j', ¬ (isW s' ∧ j' = j) → σ' s' j' = σ s' j' := by
  unfold fX5_passYears
  exact years6 d 0 FU d σ w (by omega) (by rw [FU_eq]; omega) (by omega) hw (by omega) hR
theorem tries7_l (τ : Hp) : ∀ (d c n D : Nat) {Y : Int} (w : Wv), c + d = D → d + 1 ≤ n → D < 100000 → WF Y w → Y + d < 99999 → lX7_tries_15 n (srow τ 32 0 w) D c = some (0, srow τ 32 0 (yrs d w)) := by
  intro d
  induction d with
  | zero =>
    intro c n D Y w hc hn hD hw hY
    obtain ⟨n, rfl⟩ : ∃ m, n = m + 1 := ⟨n - 1, by omega⟩
    rw [lX7_tries_15_e0, if_pos (by omega)]
    rfl
  | succ d ih =>
    intro c n D Y w hc hn hD hw hY
    obtain ⟨n, rfl⟩ : ∃ m, n = m + 1 := ⟨n - 1, by omega⟩
    have e5 : wr ((c : Int) + 1) = ((c + 1 : Nat) : Int) := by rw [wr_of (by omega) (by omega)]; omega
    have ep := passes_sp (srow τ 32 0 w) (s := 32) (j := 0) (Y := Y) rfl (by rw [srow_at]; exact hw) (by omega)
    rw [srow_at, srow_srow] at ep
    rw [lX7_tries_15_e0, if_neg (by omega), ep, cl_pos, e5]
    exact ih (c + 1) n D (stepW w) (by omega) (by omega) hD (stepW_WF hw) (by omega)
theorem tries7 {σ τ : Hp} (h : Sim σ) (e27 : τ 27 0 = σ 27 0) (e32 : τ 32 0 = σ 32 0) {d : Nat} (hd : d ≤ 50) : fX7_tries τ d = some (0, srow τ 32 0 (yrs d (foreV σ))) := by
  unfold fX7_tries
  rw [fore7 e27 e32, cl_pos]
  exact tries7_l τ d 0 FU d (foreV σ) (by omega) (by rw [FU_eq]; omega) (by omega) (foreV_WF h) (by omega)
theorem foretell6 {σ : Hp} (h : Sim σ) {d : Nat} (hd : d ≤ 50) : ∃ σ1, fX6_foretell σ d = some (0, σ1) ∧ (∀ s j, ¬ (isW s ∧ j = 1) → σ1 s j = σ s j) ∧ RelW σ1 1 (yrs d (foreV σ)) := by
  obtain ⟨σ1, e1, o1, R1⟩ := fore6 h
  obtain ⟨σ2, e2, R2, o2⟩ := years6_sp (foreV_WF h) hd R1
  refine ⟨σ2, ?_, fun s j hs => (o2 s j hs).trans (o1 s j hs), R2⟩
  unfold fX6_foretell
  rw [e1, cl_pos, e2, cl_pos]
theorem nw27 : ¬ isW 27 := fun z => by rcases z with q | q <;> omega
theorem nw32 : ¬ isW 32 := fun z => by rcases z with q | q <;> omega
theorem nw24 : ¬ isW 24 := fun z => by rcases z with q | q <;> omega
theorem ok_girth {σ : Hp} (h : Sim σ) {a b : Int} : Ok (fun τ => fX6_girth τ a b) (fun τ => fX7_girth τ a b) σ := by
  obtain ⟨hR, hw⟩ := h.2.2.1.1
  have h2 := hw.2.2.1
  by_cases ha : 0 ≤ a ∧ a < σ 27 0 2
  case neg =>
    refine Ok.same (r := -1000001) h ?_ ?_
    · simp only [fX6_girth]; rw [if_pos ((tree6 hR).mpr ha)]
    · simp only [fX7_girth]; rw [if_pos ((tree7 hw).mpr ha)]
  by_cases hb : 0 ≤ b ∧ b ≤ 50
  case neg =>
    refine Ok.same (r := -1000001) h ?_ ?_
    · simp only [fX6_girth]; rw [if_neg (fun z => (tree6 hR).mp z ha), if_pos (fore6_0.mpr hb)]
    · simp only [fX7_girth]; rw [if_neg (fun z => (tree7 hw).mp z ha), if_pos (far7_0.mpr hb)]
  obtain ⟨t, rfl⟩ : ∃ k : Nat, a = k := ⟨a.toNat, by omega⟩
  obtain ⟨d, rfl⟩ : ∃ k : Nat, b = k := ⟨b.toNat, by omega⟩
  obtain ⟨σ1, e1, o1, R1⟩ := foretell6 h (d := d) (by omega)
  have e27 : σ1 27 0 = σ 27 0 := o1 27 0 (fun z => nw27 z.1)
  have e32 : σ1 32 0 = σ 32 0 := o1 32 0 (fun z => nw32 z.1)
  have hv2 : yrs d (foreV σ) 2 = σ 27 0 2 := (yrs_lo d _ (by omega) (by omega)).trans (foreV_agr σ 2 (by omega)).symm
  refine ⟨yrs d (foreV σ) (5 + 3 * t), σ1, srow σ1 32 0 (yrs d (foreV σ)), ?_, ?_, (h.w1 o1 R1).t32 _⟩
  · simp only [fX6_girth]
    rw [if_neg (fun z => (tree6 hR).mp z ha), if_neg (fun z => fore6_0.mp z hb), e1, cl_pos, gd_pos (by omega), Int.toNat_natCast, (R1.2.2.2.2.2.1 t (by rw [hv2]; exact ha.2)).2.1]
  · simp only [fX7_girth]
    rw [if_neg (fun z => (tree7 (σ := σ1) (by rw [e27]; exact hw)).mp z (by rw [e27]; exact ha)), if_neg (fun z => far7_0.mp z hb), tries7 h e27 e32 (by omega), cl_pos, (wr4u (by omega)).1, gd_pos (by omega), Int.toNat_natCast, srow_at]
theorem ok_left {σ : Hp} (h : Sim σ) {a : Int} : Ok (fun τ => fX6_left τ a) (fun τ => fX7_left τ a) σ := by
  obtain ⟨hR, hw⟩ := h.2.2.1.1
  by_cases hz : 0 < σ 27 0 0
  case neg =>
    refine Ok.same (r := -1000002) h ?_ ?_
    · simp only [fX6_left]; rw [if_pos ((told0 hR).mpr hz)]
    · simp only [fX7_left]; rw [if_pos (isWood7.mpr hz)]
  by_cases hb : 0 ≤ a ∧ a ≤ 50
  case neg =>
    refine Ok.same (r := -1000001) h ?_ ?_
    · simp only [fX6_left]; rw [if_neg (fun z => (told0 hR).mp z hz), if_pos (fore6_0.mpr hb)]
    · simp only [fX7_left]; rw [if_neg (fun z => isWood7.mp z hz), if_pos (far7_0.mpr hb)]
  obtain ⟨d, rfl⟩ : ∃ k : Nat, a = k := ⟨a.toNat, by omega⟩
  obtain ⟨σ1, e1, o1, R1⟩ := foretell6 h (d := d) (by omega)
  have e27 : σ1 27 0 = σ 27 0 := o1 27 0 (fun z => nw27 z.1)
  have e32 : σ1 32 0 = σ 32 0 := o1 32 0 (fun z => nw32 z.1)
  have hwv := yrs_WF d (foreV_WF h)
  refine ⟨(rdW (yrs d (foreV σ)) : Int), σ1, srow σ1 32 0 (yrs d (foreV σ)), ?_, ?_, (h.w1 o1 R1).t32 _⟩
  · simp only [fX6_left]
    rw [if_neg (fun z => (told0 hR).mp z hz), if_neg (fun z => fore6_0.mp z hb), e1, cl_pos, rd6 R1 hwv, cl_pos]
  · simp only [fX7_left]
    rw [if_neg (fun z => isWood7.mp z (by rw [e27]; exact hz)), if_neg (fun z => far7_0.mp z hb), tries7 h e27 e32 (by omega), cl_pos, legA7 (srow_at _ _ _ _) (by show 48 ≤ 48; omega) hwv, cl_pos]
