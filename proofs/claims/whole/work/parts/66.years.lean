/-! years: the class runs all of them, then the model; what the model has beside the class' cells, as a triple -/
abbrev Ht : Type := (Nat → Int) × Nat × Wv
def mset (σ : Hp) (t : Ht) : Hp := srow (hup (srow σ 29 0 t.1) 7 0 16 (t.2.1 : Int)) 27 0 t.2.2
theorem ms27 (σ : Hp) (t : Ht) : mset σ t 27 0 = t.2.2 := srow_at _ _ _ _
theorem ms29 (σ : Hp) (t : Ht) : mset σ t 29 0 = t.1 := by
  unfold mset
  rw [srow_ne (by omega), hup_s (by omega), srow_at]
theorem ms7 (σ : Hp) (t : Ht) : mset σ t 7 0 16 = (t.2.1 : Int) := by
  unfold mset
  rw [srow_ne (by omega), hup_at]
theorem ms7o (σ : Hp) (t : Ht) {k : Nat} (h : k ≠ 16) : mset σ t 7 0 k = σ 7 0 k := by
  unfold mset
  rw [srow_ne (by omega), hup_k h, srow_ne (by omega)]
theorem ms_o (σ : Hp) (t : Ht) {s j : Nat} (h7 : s ≠ 7) (h27 : s ≠ 27) (h29 : s ≠ 29) : mset σ t s j = σ s j := by
  unfold mset
  rw [srow_ne (fun z => h27 z.1), hup_s h7, srow_ne (fun z => h29 z.1)]
theorem ms_w (σ : Hp) (t : Ht) {s j : Nat} (h : isW s) : mset σ t s j = σ s j := ms_o σ t (by rcases h with q | q <;> omega) (by rcases h with q | q <;> omega) (by rcases h with q | q <;> omega)
theorem mset_mset (σ : Hp) (t : Ht) (P : Nat → Int) (m : Nat) (w : Wv) : srow (hup (srow (mset σ t) 29 0 P) 7 0 16 (m : Int)) 27 0 w = mset σ (P, m, w) := by
  funext s j k
  show (if s = 27 ∧ j = 0 then w else hup (srow (mset σ t) 29 0 P) 7 0 16 (m : Int) s j) k = (if s = 27 ∧ j = 0 then w else hup (srow σ 29 0 P) 7 0 16 (m : Int) s j) k
  by_cases h1 : s = 27 ∧ j = 0
  · rw [if_pos h1, if_pos h1]
  · rw [if_neg h1, if_neg h1]
    show (if s = 7 ∧ j = 0 ∧ k = 16 then (m : Int) else srow (mset σ t) 29 0 P s j k) = (if s = 7 ∧ j = 0 ∧ k = 16 then (m : Int) else srow σ 29 0 P s j k)
    by_cases h2 : s = 7 ∧ j = 0 ∧ k = 16
    · rw [if_pos h2, if_pos h2]
    · rw [if_neg h2, if_neg h2]
      by_cases h3 : s = 29 ∧ j = 0
      · rw [h3.1, h3.2, srow_at, srow_at]
      · rw [srow_ne h3, srow_ne h3]
        show srow (hup (srow σ 29 0 t.1) 7 0 16 (t.2.1 : Int)) 27 0 t.2.2 s j k = σ s j k
        rw [srow_ne h1]
        show (if s = 7 ∧ j = 0 ∧ k = 16 then (t.2.1 : Int) else srow σ 29 0 t.1 s j k) = σ s j k
        rw [if_neg h2, srow_ne h3]
theorem hup_self (σ : Hp) (s j k : Nat) : hup σ s j k (σ s j k) = σ := by
  funext a b c
  unfold hup
  split
  · rename_i h
    rw [h.1, h.2.1, h.2.2]
  · rfl
theorem mset_self {σ : Hp} {n : Nat} (h : σ 7 0 16 = (n : Int)) : mset σ (σ 29 0, n, σ 27 0) = σ := by
  show srow (hup (srow σ 29 0 (σ 29 0)) 7 0 16 (n : Int)) 27 0 (σ 27 0) = σ
  rw [srow_self σ 29 0, ← h, hup_self, srow_self]
def ynx (t : Ht) : Ht := (pastN t.2.1 t.1 t.2.2, if t.2.1 = 24 then 24 else t.2.1 + 1, stepW t.2.2)
def yit : Nat → Ht → Ht
  | 0, t => t
  | d + 1, t => yit d (ynx t)
theorem WF.up {Y Y' : Int} {w : Wv} (h : WF Y w) (hy : Y ≤ Y') : WF Y' w := ⟨h.1, ⟨h.2.1.1, Int.le_trans h.2.1.2 hy⟩, h.2.2⟩
theorem WF.dn {Y : Int} {w : Wv} (h : WF Y w) : WF (w 1) w := ⟨h.1, ⟨h.2.1.1, Int.le_refl _⟩, h.2.2⟩
theorem WF.step {Y : Int} {w : Wv} (h : WF Y w) (hy : w 1 + 1 ≤ Y) : WF Y (stepW w) := (stepW_WF h.dn).up hy
theorem ystep6 {σ : Hp} {t : Ht} (hP : SP (mset σ t)) (hW : SW (mset σ t)) (hy : t.2.2 1 + 1 ≤ 999) :
    ∃ σ1 σ2, fX1_keep σ 0 = some (0, σ1) ∧ fX5_passYear σ1 0 = some (0, σ2) ∧ SP (mset σ2 (ynx t)) ∧ SW (mset σ2 (ynx t)) ∧ (∀ s j, ¬ isW s → s ≠ 1 → σ2 s j = σ s j) ∧ (∀ s j, isW s → (j = 1 ∨ j = 2 ∨ j = 3) → σ2 s j = σ s j) ∧
      ((∀ j, j < 28 → σ 5 j 7 = 0 ∨ σ 5 j 7 = 1) → ∀ j, j < 28 → σ2 5 j 7 = 0 ∨ σ2 5 j 7 = 1) := by
  obtain ⟨s1, s2, s3, s4⟩ := id hP
  obtain ⟨hR', hw'⟩ := id hW
  rw [ms27] at hR' hw'
  have hR : RelW σ 0 t.2.2 := hR'.cg (fun s hs => (ms_w σ t hs).symm)
  rw [ms7] at s2
  rw [ms7, ms_o σ t (by omega) (by omega) (by omega)] at s1
  rw [ms_o σ t (s := 1) (by omega) (by omega) (by omega)] at s3
  obtain ⟨x, hx⟩ : ∃ x : Nat, σ 1 0 1 = x := ⟨(σ 1 0 1).toNat, by omega⟩
  obtain ⟨σ1, ek, o1, R1, c2, c1⟩ := keep_sp (σ := σ) (n := t.2.1) (x := x) s1 (by omega) hx (by omega) hR hw'
  have n1 : ¬ isW 1 := fun z => by rcases z with q | q <;> omega
  have R0 : RelW σ1 0 t.2.2 := hR.cg (fun s hs => o1 s 0 (fun z => by omega) (by rcases hs with q | q <;> omega))
  obtain ⟨σ2, ey, R2, o2⟩ := year5_sp hw' (by omega) R0
  have w2 : ∀ s j, isW s → j ≠ 0 → j ≠ 4 + x → σ2 s j = σ s j := fun s j hs h0 h4 => by
    rw [o2 s j (fun z => h0 z.2), o1 s j (fun z => h4 z.2) (by rcases hs with q | q <;> omega)]
  have RN : RelW σ2 (4 + x) t.2.2 := R1.cg (fun s hs => o2 s _ (fun z => by omega))
  refine ⟨σ1, σ2, ek, ey, ?_, ⟨?_, ?_⟩, fun s j hs h1 => by rw [o2 s j (fun z => hs z.1), o1 s j (fun z => hs z.1) h1], fun s j hs hj => w2 s j hs (by omega) (by omega), fun ht j hj => ?_⟩
  · refine hP.noted (υ := mset σ2 (ynx t)) hW (n := t.2.1) (x := x) (ms7 σ t) (by rw [ms_o σ t (by omega) (by omega) (by omega)]; exact hx) (fun s j hs h4 hj => ?_) ?_ ?_ ?_ ?_ ?_
    · rw [ms_w _ _ hs, ms_w _ _ hs]
      exact w2 s j hs (by omega) hj
    · rw [ms27]
      exact RN.cg (fun s hs => ms_w _ _ hs)
    · rw [ms_o _ _ (by omega) (by omega) (by omega), o2 1 0 (fun z => n1 z.1)]
      exact c2
    · rw [ms_o _ _ (by omega) (by omega) (by omega), o2 1 0 (fun z => n1 z.1)]
      exact c1
    · rw [ms29, ms29, ms27]
      rfl
    · rw [ms7]
      rfl
  · rw [ms27]
    exact R2.cg (fun s hs => ms_w _ _ hs)
  · rw [ms27]
    exact hw'.step hy
  · by_cases e0 : j = 0
    · subst e0; exact R2.told
    by_cases e1 : j = 4 + x
    · subst e1; exact RN.told
    · rw [w2 5 j (Or.inl rfl) e0 e1]
      exact ht j hj
theorem years6_l {k : Nat} (hk : k ≤ 20) : ∀ (d i n : Nat) (σ : Hp) (t : Ht), i + d = k → d + 1 ≤ n → SP (mset σ t) → SW (mset σ t) → t.2.2 1 + d ≤ 999 →
    ∃ σ', lX6_years_47 n σ k i = some ((cntB 8 (rdW (yit d t).2.2) : Int), σ') ∧ SP (mset σ' (yit d t)) ∧ SW (mset σ' (yit d t)) ∧ (∀ s j, ¬ isW s → s ≠ 1 → σ' s j = σ s j) ∧ (∀ s j, isW s → (j = 1 ∨ j = 2 ∨ j = 3) → σ' s j = σ s j) ∧
      ((∀ j, j < 28 → σ 5 j 7 = 0 ∨ σ 5 j 7 = 1) → ∀ j, j < 28 → σ' 5 j 7 = 0 ∨ σ' 5 j 7 = 1) := by
  intro d
  induction d with
  | zero =>
    intro i n σ t hi hn hP hW hy
    obtain ⟨n, rfl⟩ : ∃ m, n = m + 1 := ⟨n - 1, by omega⟩
    obtain ⟨hR', hw'⟩ := id hW
    rw [ms27] at hR' hw'
    have hR : RelW σ 0 t.2.2 := hR'.cg (fun s hs => (ms_w σ t hs).symm)
    refine ⟨σ, ?_, hP, hW, fun _ _ _ _ => rfl, fun _ _ _ _ => rfl, fun h => h⟩
    rw [lX6_years_47_e0, if_pos (by omega), rd6 hR hw', cl_pos, bcN (rdW_lt hw')]
    rfl
  | succ d ih =>
    intro i n σ t hi hn hP hW hy
    obtain ⟨n, rfl⟩ : ∃ m, n = m + 1 := ⟨n - 1, by omega⟩
    have e5 : wr ((i : Int) + 1) = ((i + 1 : Nat) : Int) := by rw [wr_of (by omega) (by omega)]; omega
    obtain ⟨σ1, σ2, ek, ey, hP2, hW2, o1, o2, o3⟩ := ystep6 hP hW (by omega)
    obtain ⟨σ', e', p1, p2, p3, p4, p5⟩ := ih (i + 1) n σ2 (ynx t) (by omega) (by omega) hP2 hW2 (by show stepW t.2.2 1 + (d : Int) ≤ 999; rw [stepW_1]; omega)
    refine ⟨σ', ?_, p1, p2, fun s j h1 h2 => (p3 s j h1 h2).trans (o1 s j h1 h2), fun s j h1 h2 => (p4 s j h1 h2).trans (o2 s j h1 h2), fun h => p5 (o3 h)⟩
    rw [lX6_years_47_e0, if_neg (by omega), ek, cl_pos, ey, cl_pos, e5]
    exact e'
theorem years7_l {k : Nat} (hk : k ≤ 20) (τ : Hp) : ∀ (d i n : Nat) (t : Ht), i + d = k → d + 1 ≤ n → WF 999 t.2.2 → t.2.1 ≤ 24 → t.2.2 1 + d ≤ 999 →
    lX7_years_42 n (mset τ t) k i = some ((cntB 8 (rdW (yit d t).2.2) : Int), mset τ (yit d t)) := by
  intro d
  induction d with
  | zero =>
    intro i n t hi hn hw hm hy
    obtain ⟨n, rfl⟩ : ∃ m, n = m + 1 := ⟨n - 1, by omega⟩
    have hl := rdW_lt hw
    rw [lX7_years_42_e0, if_pos (by omega), legA7 (ms27 τ t) (by show 48 ≤ 48; omega) hw, cl_pos, ones7 (by omega), cl_pos]
    rfl
  | succ d ih =>
    intro i n t hi hn hw hm hy
    obtain ⟨n, rfl⟩ : ∃ m, n = m + 1 := ⟨n - 1, by omega⟩
    have e5 : wr ((i : Int) + 1) = ((i + 1 : Nat) : Int) := by rw [wr_of (by omega) (by omega)]; omega
    have en := notes_sp (σ := mset τ t) (n := t.2.1) hm (ms7 τ t)
    rw [ms29, ms27] at en
    obtain ⟨υ, hυ⟩ : ∃ υ, υ = hup (srow (mset τ t) 29 0 (pastN t.2.1 t.1 t.2.2)) 7 0 16 ((if t.2.1 = 24 then 24 else t.2.1 + 1 : Nat) : Int) := ⟨_, rfl⟩
    rw [← hυ] at en
    have u27 : υ 27 0 = t.2.2 := by rw [hυ, hup_s (by omega), srow_ne (by omega), ms27]
    have ep := passes_sp υ (s := 27) (j := 0) (Y := 999) rfl (by rw [u27]; exact hw) (by omega)
    rw [u27] at ep
    have em : srow υ 27 0 (stepW t.2.2) = mset τ (ynx t) := by rw [hυ]; exact mset_mset τ t _ _ _
    rw [em] at ep
    rw [lX7_years_42_e0, if_neg (by omega), en, cl_pos, ep, cl_pos, e5]
    exact ih (i + 1) n (ynx t) (by omega) (by omega) (hw.step (by omega)) (by show (if t.2.1 = 24 then 24 else t.2.1 + 1) ≤ 24; split <;> omega) (by show stepW t.2.2 1 + (d : Int) ≤ 999; rw [stepW_1]; omega)
theorem ok_years {σ : Hp} (h : Sim σ) {a : Int} (ha : Rg a) : Ok (fun τ => fX6_years τ a) (fun τ => fX7_years τ a) σ := by
  obtain ⟨⟨hR, hw⟩, hSP, hSI⟩ := id h.2.2.1
  have h1 := hw.2.1
  obtain ⟨s1, s2, s3, s4⟩ := id hSP
  by_cases hz : 0 < σ 27 0 0
  case neg =>
    refine Ok.same (r := -1000002) h ?_ ?_
    · simp only [fX6_years]; rw [if_pos ((told0 hR).mpr hz)]
    · simp only [fX7_years]; rw [if_pos (isWood7.mpr hz)]
  by_cases hb : 1 ≤ a ∧ a ≤ 20
  case neg =>
    refine Ok.same (r := -1000001) h ?_ ?_
    · simp only [fX6_years]; rw [if_neg (fun z => (told0 hR).mp z hz)]
      by_cases q : a < 1
      · rw [if_pos q]
      · rw [if_neg q, if_neg (by omega)]
    · simp only [fX7_years]; rw [if_neg (fun z => isWood7.mp z hz), if_pos (in_0.mpr hb)]
  obtain ⟨k, rfl⟩ : ∃ k : Nat, a = k := ⟨a.toNat, by omega⟩
  have ew : wr (σ 27 0 1 + (k : Int)) = σ 27 0 1 + k := wr_of (by omega) (by omega)
  by_cases hf : σ 27 0 1 + (k : Int) ≤ 999
  case neg =>
    refine Ok.same (r := -1000003) h ?_ ?_
    · simp only [fX6_years]; rw [if_neg (fun z => (told0 hR).mp z hz), if_neg (by omega), if_pos hb.2, hR.2.2.1, ew, if_neg hf]
    · simp only [fX7_years]; rw [if_neg (fun z => isWood7.mp z hz), if_neg (in_1 hb), ew, if_neg hf]
  obtain ⟨n, hn⟩ : ∃ n : Nat, σ 7 0 16 = n := ⟨(σ 7 0 16).toNat, by omega⟩
  obtain ⟨t, ht⟩ : ∃ t : Ht, t = (σ 29 0, n, σ 27 0) := ⟨_, rfl⟩
  have ms : mset σ t = σ := by rw [ht]; exact mset_self hn
  have t1 : t.2.2 = σ 27 0 := by rw [ht]
  have t2 : t.2.1 = n := by rw [ht]
  obtain ⟨σ', e6, p1, p2, p3, p4, p5⟩ := years6_l (k := k) (by omega) k 0 FU σ t (by omega) (by rw [FU_eq]; omega) (by rw [ms]; exact hSP) (by rw [ms]; exact ⟨hR, hw⟩) (by rw [t1]; exact hf)
  have nW : ∀ s, (s = 7 ∨ s = 27 ∨ s = 29) → ¬ isW s := fun s hs z => by rcases z with q | q <;> omega
  have ms' : mset σ' t = σ' := by
    have q29 := p3 29 0 (nW 29 (by omega)) (by omega)
    have q27 := p3 27 0 (nW 27 (by omega)) (by omega)
    have q7 := p3 7 0 (nW 7 (by omega)) (by omega)
    rw [ht, ← q29, ← q27]
    exact mset_self (by rw [q7, hn])
  have e7 := years7_l (k := k) (by omega) σ' k 0 FU t (by omega) (by rw [FU_eq]; omega) (by rw [t1]; exact hw) (by omega) (by rw [t1]; exact hf)
  rw [ms'] at e7
  have e6' : lX6_years_47 FU σ k 0 = some ((cntB 8 (rdW (yit k t).2.2) : Int), σ') := e6
  have e7' : lX7_years_42 FU σ' k 0 = some ((cntB 8 (rdW (yit k t).2.2) : Int), mset σ' (yit k t)) := e7
  have q27 := p3 27 0 (nW 27 (by omega)) (by omega)
  refine ⟨(cntB 8 (rdW (yit k t).2.2) : Int), σ', mset σ' (yit k t), ?_, ?_, ?_⟩
  · simp only [fX6_years]; rw [if_neg (fun z => (told0 hR).mp z hz), if_neg (by omega), if_pos hb.2, hR.2.2.1, ew, if_pos hf, e6']
  · simp only [fX7_years]; rw [if_neg (fun z => isWood7.mp z (by rw [q27]; exact hz)), if_neg (in_1 hb), q27, ew, if_pos hf, e7']
  · refine h.woods (fun s j hs q1 q7 q27 q29 _ _ _ _ => by rw [ms_o _ _ q7 q27 q29]; exact p3 s j hs q1) (fun k hk => ?_) ⟨p2, p1, ?_⟩ ?_
    · rw [ms7o _ _ (by omega), p3 7 0 (nW 7 (by omega)) (by omega)]
    · exact hSI.cg (fun s j hs hj => by rw [ms_w _ _ hs]; exact p4 s j hs (by omega)) (by rw [ms_o _ _ (by omega) (by omega) (by omega)]; exact p3 31 0 (fun z => by rcases z with q | q <;> omega) (by omega)) (by rw [ms_o _ _ (by omega) (by omega) (by omega)]; exact p3 30 0 (fun z => by rcases z with q | q <;> omega) (by omega))
    · intro j hj
      rw [ms_w _ _ (Or.inl rfl)]
      exact p5 h.2.2.2.2.2.2 j hj
