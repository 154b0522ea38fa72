/-! the text: steps of both sides -/
theorem well_1 {τ : Hp} (h : τ 7 0 8 = -1) : ¬ fX7_isWell τ = 0 := by
  unfold fX7_isWell
  rw [h, if_neg (by omega)]
  omega
theorem well_0 {τ : Hp} {k q : Nat} (h : Mf τ k q) : fX7_isWell τ = 0 := by
  unfold fX7_isWell
  rw [h.2, if_pos (by omega)]
theorem take_f {τ : Hp} {k q : Nat} (h : Mf τ k q) (v1 v2 : Int) : fX7_takes τ v1 v2 = some (0, τ) := by
  unfold fX7_takes
  rw [if_pos (well_0 h)]
theorem fig_f {τ : Hp} {k q : Nat} (h : Mf τ k q) (lo hi : Int) : fX7_figure τ lo hi = some (0, τ) := by
  unfold fX7_figure jX7_figure_22
  rw [if_pos (well_0 h), take_f h, cl_pos]
theorem next_f {τ : Hp} {k q : Nat} (h : Mf τ k q) (lo hi : Int) : fX7_next τ lo hi = some (0, τ) := by
  unfold fX7_next jX7_next_14
  rw [take_f h, take_f h]
  simp only [cl_pos, fig_f h, ite_self]
theorem take_ok {b : Nat → Int} {L : Nat} {fk : Int} {τ : Hp} {p p' : Nat} (hL : L ≤ 140) (hb : ∀ k, k < L → 0 ≤ b k ∧ b k ≤ 255) (h : Mw b L fk τ p) (h9 : τ 7 0 9 = (p' : Int)) (hp : p' ≤ L) {v1 : Int} (v2 : Int) (hv : v1 ≠ 0) : ∃ τ', fX7_takes τ v1 v2 = some (τ 7 0 12, τ') ∧ Mw b L fk τ' p' ∧ oM τ τ' := by
  obtain ⟨τ', e, h1, h2⟩ := adv7 hL hb h.1 h9 hp
  refine ⟨τ', ?_, h1, h2⟩
  unfold fX7_takes
  rw [if_neg (well_1 h.1.2.2.2), if_neg hv, e, cl_pos]
theorem take_no {b : Nat → Int} {L : Nat} {fk : Int} {τ : Hp} {p : Nat} (h : Mw b L fk τ p) (k : Nat) : ∃ τ', fX7_takes τ 0 k = some (0, τ') ∧ Mf τ' k p ∧ oM τ τ' := by
  refine ⟨hup (hup τ 7 0 8 (p : Int)) 7 0 7 k, ?_, ⟨hup_at _ _ _ _ _, by rw [hup_k (by omega), hup_at]⟩, fun s j hs => by rw [hup_s hs, hup_s hs], fun x hx => by rw [hup_k (by omega), hup_k (by omega)]⟩
  unfold fX7_takes
  rw [if_neg (well_1 h.1.2.2.2), if_pos rfl, h.2.1]
  rfl
theorem take_ch {b : Nat → Int} {L : Nat} {fk : Int} {τ : Hp} {p : Nat} (hL : L ≤ 140) (hb : ∀ k, k < L → 0 ≤ b k ∧ b k ≤ 255) (h : Mw b L fk τ p) (hp : p ≤ L) (hn : ¬ isFg (bat b L p)) (h0 : 0 ≤ bat b L p) {v1 : Int} (v2 : Int) (hv : v1 ≠ 0) : ∃ τ', fX7_takes τ v1 v2 = some (bat b L p, τ') ∧ Mw b L fk τ' (p + 1) ∧ oM τ τ' := by
  obtain ⟨m, hr⟩ := run_ex b L (L - p) p (by omega)
  have hm : m = 0 := by
    rcases Nat.eq_zero_or_pos m with q | q
    · exact q
    · have := bat_run hr q
      rw [Nat.add_zero] at this
      exact absurd this hn
  subst hm
  obtain ⟨l1, l2, l3⟩ := (h.2.2 0 hr).1 rfl
  have hpl : p < L := by
    unfold bat at h0
    split at h0
    · assumption
    · omega
  rw [if_neg (by omega)] at l3
  obtain ⟨τ', e, q1, q2⟩ := take_ok hL hb h l3 (by omega) v2 hv
  rw [l1] at e
  exact ⟨τ', e, q1, q2⟩
/-- what token stands there -/
theorem tok_ch {b : Nat → Int} {L : Nat} {fk : Int} {τ : Hp} {p : Nat} (h : Mw b L fk τ p) (hp : p ≤ L) (hn : ¬ isFg (bat b L p)) : τ 7 0 12 = bat b L p ∧ τ 7 0 11 = tokK (bat b L p) := by
  obtain ⟨m, hr⟩ := run_ex b L (L - p) p (by omega)
  have hm : m = 0 := by
    rcases Nat.eq_zero_or_pos m with q | q
    · exact q
    · have := bat_run hr q
      rw [Nat.add_zero] at this
      exact absurd this hn
  subst hm
  obtain ⟨l1, l2, l3⟩ := (h.2.2 0 hr).1 rfl
  exact ⟨l1, l2⟩
theorem tok_fg {b : Nat → Int} {L : Nat} {fk : Int} {τ : Hp} {p : Nat} (h : Mw b L fk τ p) (hp : p ≤ L) (hn : isFg (bat b L p)) : τ 7 0 11 = 2 ∨ τ 7 0 11 = 5 := by
  obtain ⟨m, hr⟩ := run_ex b L (L - p) p (by omega)
  have hm : 0 < m := by
    rcases Nat.eq_zero_or_pos m with q | q
    · subst q
      exact absurd hn (bat_end hr)
    · exact q
  obtain ⟨l1, l2, l3⟩ := (h.2.2 m hr).2 hm
  rw [l2]
  split
  · exact Or.inl rfl
  · exact Or.inr rfl
theorem tokK_3 {c : Int} : tokK c = 3 ↔ c = 44 := by
  unfold tokK
  repeat' split
  all_goals omega
theorem tokK_4 {c : Int} : tokK c = 4 ↔ c = 59 := by
  unfold tokK
  repeat' split
  all_goals omega
theorem tokK_1 {c : Int} : tokK c = 1 ↔ 97 ≤ c ∧ c ≤ 122 := by
  unfold tokK
  repeat' split
  all_goals omega
theorem tokK_0 {c : Int} : tokK c = 0 ↔ c < 0 := by
  unfold tokK
  repeat' split
  all_goals omega
theorem tokK_2 (c : Int) : tokK c ≠ 2 := by
  unfold tokK
  repeat' split
  all_goals omega
theorem tok_sgn {b : Nat → Int} {L : Nat} {fk : Int} {τ : Hp} {p : Nat} {v tk : Int} (hv : (v = 44 ∧ tk = 3) ∨ (v = 59 ∧ tk = 4)) (h : Mw b L fk τ p) (hp : p ≤ L) : τ 7 0 11 = tk ↔ bat b L p = v := by
  by_cases q : isFg (bat b L p)
  · have := tok_fg h hp q
    omega
  · rw [(tok_ch h hp q).2]
    rcases hv with ⟨rfl, rfl⟩ | ⟨rfl, rfl⟩
    · exact tokK_3
    · exact tokK_4
theorem tok_let {b : Nat → Int} {L : Nat} {fk : Int} {τ : Hp} {p : Nat} (h : Mw b L fk τ p) (hp : p ≤ L) : (τ 7 0 11 = 1 → τ 7 0 12 = bat b L p) ∧ (τ 7 0 11 = 1 ↔ 97 ≤ bat b L p ∧ bat b L p ≤ 122) := by
  by_cases q : isFg (bat b L p)
  · have := tok_fg h hp q
    exact ⟨fun z => by omega, fun z => by omega, fun z => by omega⟩
  · obtain ⟨l1, l2⟩ := tok_ch h hp q
    exact ⟨fun _ => l1, by rw [l2]; exact tokK_1⟩
theorem tok_end {b : Nat → Int} {L : Nat} {fk : Int} {τ : Hp} {p : Nat} (hb : ∀ k, k < L → 0 ≤ b k ∧ b k ≤ 255) (h : Mw b L fk τ p) (hp : p ≤ L) : τ 7 0 11 = 0 ↔ p = L := by
  have hL : bat b L p < 0 ↔ p = L := by
    unfold bat
    split
    · rename_i z; have := hb p z; omega
    · omega
  by_cases q : isFg (bat b L p)
  · have := tok_fg h hp q
    omega
  · rw [(tok_ch h hp q).2, tokK_0]
    exact hL
theorem tok_num {b : Nat → Int} {L : Nat} {fk : Int} {τ : Hp} {p m : Nat} (h : Mw b L fk τ p) (hr : isRun b L p m) : (τ 7 0 11 = 2 ↔ 1 ≤ m ∧ m ≤ 2) ∧ (0 < m → τ 7 0 12 = numv b p m ∧ τ 7 0 9 = ((p + m : Nat) : Int)) := by
  rcases Nat.eq_zero_or_pos m with q | q
  · subst q
    obtain ⟨l1, l2, l3⟩ := (h.2.2 0 hr).1 rfl
    refine ⟨⟨fun z => ?_, fun z => by omega⟩, fun z => by omega⟩
    rw [l2] at z
    exact absurd z (tokK_2 _)
  · obtain ⟨l1, l2, l3⟩ := (h.2.2 m hr).2 q
    refine ⟨?_, fun _ => ⟨l1, l3⟩⟩
    rw [l2]
    by_cases q3 : m < 3
    · rw [if_pos q3]; omega
    · rw [if_neg q3]; omega
/-! numbers and signs, both sides -/
abbrev KN (σ : Hp) (lo hi : Int) (K : Int → Hp → Option (Int × Hp)) : Option (Int × Hp) := cl (fX4_numberRead σ lo hi) (fun r σ' => if r < 0 then some (0, σ') else K r σ')
abbrev KS (σ : Hp) (v : Int) (K : Hp → Option (Int × Hp)) : Option (Int × Hp) := cl (fX4_reads σ v) (fun r σ' => if r = 0 then some (0, σ') else K σ')
theorem c_num {b : Nat → Int} {L : Nat} {fk : Int} {p : Nat} (lo hi : Int) (hL : L ≤ 140) (hb : ∀ k, k < L → 0 ≤ b k ∧ b k ≤ 255) (hp : p ≤ L) :
    (∃ (p' : Nat) (v : Int), (0 ≤ v ∧ v ≤ 99) ∧ (lo ≤ v ∧ v ≤ hi) ∧ p' ≤ L ∧ (∀ σ, Cc b L σ p → ∃ σ', fX4_numberRead σ lo hi = some (v, σ') ∧ (∀ K, KN σ lo hi K = K v σ') ∧ Cc b L σ' p' ∧ oC σ σ') ∧ (∀ τ, Mw b L fk τ p → ∃ τ', τ 7 0 11 = 2 ∧ τ 7 0 12 = v ∧ τ 7 0 9 = (p' : Int) ∧ fX7_figure τ lo hi = some (v, τ') ∧ Mw b L fk τ' p' ∧ oM τ τ')) ∨
    (∃ k : Nat, (∀ σ, Cc b L σ p → ∃ σ', fX4_numberRead σ lo hi = some (-1, σ') ∧ (∀ K, KN σ lo hi K = some (0, σ')) ∧ Cf σ' k p ∧ oC σ σ') ∧ (∀ τ, Mw b L fk τ p → ((τ 7 0 11 ≠ 2 ∧ k = 1) ∨ (τ 7 0 11 = 2 ∧ k = 2 ∧ ¬ (lo ≤ τ 7 0 12 ∧ τ 7 0 12 ≤ hi))) ∧ ∃ τ', fX7_figure τ lo hi = some (0, τ') ∧ Mf τ' k p ∧ oM τ τ')) := by
  obtain ⟨m, hr⟩ := run_ex b L (L - p) p (by omega)
  have hnv := numv_in (b := b) (p := p) m (fun k hk => hr.2.1 k hk)
  by_cases q : (1 ≤ m ∧ m ≤ 2) ∧ lo ≤ numv b p m ∧ numv b p m ≤ hi
  · refine Or.inl ⟨p + m, numv b p m, ⟨hnv.1, hnv.2.1⟩, q.2, hr.1, fun σ h => ?_, fun τ h => ?_⟩
    · obtain ⟨σ', e, h1, h2⟩ := num_ok hL hr h q.1 q.2
      refine ⟨σ', e, fun K => ?_, h1, h2⟩
      unfold KN
      rw [e, cl_pos, if_neg (by omega)]
    · obtain ⟨t1, t2⟩ := tok_num h hr
      obtain ⟨t3, t4⟩ := t2 (by omega)
      obtain ⟨τ', e, h1, h2⟩ := take_ok hL hb h t4 hr.1 2 (v1 := fX7_in (τ 7 0 12) lo hi) (in_1 (by rw [t3]; exact q.2))
      refine ⟨τ', t1.mpr q.1, t3, t4, ?_, h1, h2⟩
      unfold fX7_figure jX7_figure_22
      rw [if_neg (well_1 h.1.2.2.2), if_pos (t1.mpr q.1), e, cl_pos, t3]
  · refine Or.inr ⟨if 1 ≤ m ∧ m ≤ 2 then 2 else 1, fun σ h => ?_, fun τ h => ?_⟩
    · obtain ⟨σ', e, h1, h2⟩ := num_no hL hr h q
      refine ⟨σ', e, fun K => ?_, h1, h2⟩
      unfold KN
      rw [e, cl_pos, if_pos (by omega)]
    · obtain ⟨t1, t2⟩ := tok_num h hr
      by_cases q1 : 1 ≤ m ∧ m ≤ 2
      · rw [if_pos q1]
        obtain ⟨t3, t4⟩ := t2 (by omega)
        have hno : ¬ (lo ≤ τ 7 0 12 ∧ τ 7 0 12 ≤ hi) := by rw [t3]; exact fun z => q ⟨q1, z⟩
        obtain ⟨τ', e, h1, h2⟩ := take_no h 2
        have e' : fX7_takes τ 0 2 = some (0, τ') := e
        refine ⟨Or.inr ⟨t1.mpr q1, rfl, hno⟩, τ', ?_, h1, h2⟩
        unfold fX7_figure jX7_figure_22
        rw [if_neg (well_1 h.1.2.2.2), if_pos (t1.mpr q1), in_0.mpr hno, e', cl_pos]
      · rw [if_neg q1]
        obtain ⟨τ', e, h1, h2⟩ := take_no h 1
        have e' : fX7_takes τ 0 1 = some (0, τ') := e
        refine ⟨Or.inl ⟨fun z => q1 (t1.mp z), rfl⟩, τ', ?_, h1, h2⟩
        unfold fX7_figure
        rw [if_neg (well_1 h.1.2.2.2), if_neg (fun z => q1 (t1.mp z)), e', cl_pos]
theorem c_sgn {b : Nat → Int} {L : Nat} {fk : Int} {p : Nat} {v tk : Int} (hv : (v = 44 ∧ tk = 3) ∨ (v = 59 ∧ tk = 4)) (hL : L ≤ 140) (hb : ∀ k, k < L → 0 ≤ b k ∧ b k ≤ 255) (hp : p ≤ L) :
    (p + 1 ≤ L ∧ (∀ σ, Cc b L σ p → ∃ σ', (∀ K, KS σ v K = K σ') ∧ Cc b L σ' (p + 1) ∧ oC σ σ') ∧ (∀ τ, Mw b L fk τ p → τ 7 0 11 = tk ∧ ∃ x τ', fX7_takes τ 1 1 = some (x, τ') ∧ Mw b L fk τ' (p + 1) ∧ oM τ τ')) ∨
    ((∀ σ, Cc b L σ p → ∃ σ', (∀ K, KS σ v K = some (0, σ')) ∧ Cf σ' 1 p ∧ oC σ σ') ∧ (∀ τ, Mw b L fk τ p → τ 7 0 11 ≠ tk ∧ ∃ τ', fX7_takes τ 0 1 = some (0, τ') ∧ Mf τ' 1 p ∧ oM τ τ')) := by
  by_cases q : bat b L p = v
  · have hpl : p < L := by
      unfold bat at q
      split at q
      · assumption
      · omega
    refine Or.inl ⟨by omega, fun σ h => ?_, fun τ h => ?_⟩
    · obtain ⟨-, σ', e, h1, h2⟩ := reads_ok hL h q (by omega)
      refine ⟨σ', fun K => ?_, h1, h2⟩
      unfold KS
      rw [e, cl_pos, if_neg (by omega)]
    · obtain ⟨τ', e, h1, h2⟩ := take_ch hL hb h hp (by omega) (by omega) (v1 := 1) 1 (by omega)
      exact ⟨(tok_sgn hv h hp).mpr q, _, τ', e, h1, h2⟩
  · refine Or.inr ⟨fun σ h => ?_, fun τ h => ?_⟩
    · obtain ⟨σ', e, h1, h2⟩ := reads_no hL h q
      refine ⟨σ', fun K => ?_, h1, h2⟩
      unfold KS
      rw [e, cl_pos, if_pos rfl]
    · obtain ⟨τ', e, h1, h2⟩ := take_no h 1
      exact ⟨fun z => q ((tok_sgn hv h hp).mp z), τ', e, h1, h2⟩
theorem c_next {b : Nat → Int} {L : Nat} {fk : Int} {p : Nat} (lo hi : Int) (hL : L ≤ 140) (hb : ∀ k, k < L → 0 ≤ b k ∧ b k ≤ 255) (hp : p ≤ L) :
    (∃ (p' : Nat) (v : Int), (0 ≤ v ∧ v ≤ 99) ∧ (lo ≤ v ∧ v ≤ hi) ∧ p' ≤ L ∧ (∀ σ, Cc b L σ p → ∃ σ', (∀ K, KS σ 44 (fun σ1 => KN σ1 lo hi K) = K v σ') ∧ Cc b L σ' p' ∧ oC σ σ') ∧ (∀ τ, Mw b L fk τ p → ∃ τ', fX7_next τ lo hi = some (v, τ') ∧ Mw b L fk τ' p' ∧ oM τ τ')) ∨
    (∃ k q : Nat, (∀ σ, Cc b L σ p → ∃ σ', (∀ K, KS σ 44 (fun σ1 => KN σ1 lo hi K) = some (0, σ')) ∧ Cf σ' k q ∧ oC σ σ') ∧ (∀ τ, Mw b L fk τ p → ∃ τ', fX7_next τ lo hi = some (0, τ') ∧ Mf τ' k q ∧ oM τ τ')) := by
  rcases c_sgn (fk := fk) (v := 44) (tk := 3) (Or.inl ⟨rfl, rfl⟩) hL hb hp with ⟨hp1, cs, ms⟩ | ⟨cs, ms⟩
  · rcases c_num (fk := fk) lo hi hL hb hp1 with ⟨p', v, v1, v2, hp', cn, mn⟩ | ⟨k, cn, mn⟩
    · refine Or.inl ⟨p', v, v1, v2, hp', fun σ h => ?_, fun τ h => ?_⟩
      · obtain ⟨σ1, e1, h1, o1⟩ := cs σ h
        obtain ⟨σ2, -, e2, h2, o2⟩ := cn σ1 h1
        exact ⟨σ2, fun K => (e1 _).trans (e2 K), h2, o1.tr o2⟩
      · obtain ⟨t1, x, τ1, e1, h1, o1⟩ := ms τ h
        obtain ⟨τ2, -, -, -, e2, h2, o2⟩ := mn τ1 h1
        refine ⟨τ2, ?_, h2, o1.tr o2⟩
        unfold fX7_next jX7_next_14
        rw [if_pos t1, e1, cl_pos, e2, cl_pos]
    · refine Or.inr ⟨k, p + 1, fun σ h => ?_, fun τ h => ?_⟩
      · obtain ⟨σ1, e1, h1, o1⟩ := cs σ h
        obtain ⟨σ2, -, e2, h2, o2⟩ := cn σ1 h1
        exact ⟨σ2, fun K => (e1 _).trans (e2 K), h2, o1.tr o2⟩
      · obtain ⟨t1, x, τ1, e1, h1, o1⟩ := ms τ h
        obtain ⟨-, τ2, e2, h2, o2⟩ := mn τ1 h1
        refine ⟨τ2, ?_, h2, o1.tr o2⟩
        unfold fX7_next jX7_next_14
        rw [if_pos t1, e1, cl_pos, e2, cl_pos]
  · refine Or.inr ⟨1, p, fun σ h => ?_, fun τ h => ?_⟩
    · obtain ⟨σ1, e1, h1, o1⟩ := cs σ h
      exact ⟨σ1, fun K => e1 _, h1, o1⟩
    · obtain ⟨t1, τ1, e1, h1, o1⟩ := ms τ h
      refine ⟨τ1, ?_, h1, o1⟩
      unfold fX7_next jX7_next_14
      rw [if_neg t1, e1, cl_pos, fig_f h1, cl_pos]
