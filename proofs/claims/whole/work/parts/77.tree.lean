/-! a tree more -/
def treW (w : Wv) (a b c : Int) : Wv := up1 (up1 (up1 (up1 w (4 + 3 * (w 2).toNat) a) (5 + 3 * (w 2).toNat) b) (6 + 3 * (w 2).toNat) c) 2 (w 2 + 1)
theorem treW_2 (w : Wv) (a b c : Int) : treW w a b c 2 = w 2 + 1 := up1_at _ _ _
theorem treW_o {w : Wv} {a b c : Int} {k : Nat} (h2 : k ≠ 2) (h : k < 4 + 3 * (w 2).toNat ∨ 7 + 3 * (w 2).toNat ≤ k) : treW w a b c k = w k := by
  unfold treW
  rw [up1_ne h2, up1_ne (by omega), up1_ne (by omega), up1_ne (by omega)]
theorem treW_new (w : Wv) (a b c : Int) : treW w a b c (4 + 3 * (w 2).toNat) = a ∧ treW w a b c (5 + 3 * (w 2).toNat) = b ∧ treW w a b c (6 + 3 * (w 2).toNat) = c := by
  unfold treW
  refine ⟨?_, ?_, ?_⟩
  · rw [up1_ne (by omega), up1_ne (by omega), up1_ne (by omega), up1_at]
  · rw [up1_ne (by omega), up1_ne (by omega), up1_at]
  · rw [up1_ne (by omega), up1_at]
theorem WF.tre {Y : Int} {w : Wv} {a b c : Int} (h : WF Y w) (h4 : w 2 < 4) (ha : 1 ≤ a ∧ a ≤ 5) (hb : 0 ≤ b ∧ b ≤ 999) (hc : 0 ≤ c ∧ c ≤ 9) : WF Y (treW w a b c) := by
  obtain ⟨h0, h1, h2, h3, h5, h6⟩ := h
  unfold WF
  rw [treW_2, treW_o (k := 0) (by omega) (by omega), treW_o (k := 1) (by omega) (by omega), treW_o (k := 3) (by omega) (by omega)]
  refine ⟨h0, h1, by omega, h3, fun t ht => ?_, fun i hi => ?_⟩
  · by_cases e : t = (w 2).toNat
    · obtain ⟨q1, q2, q3⟩ := treW_new w a b c
      rw [e, q1, q2, q3]
      exact ⟨ha, hb, hc⟩
    · rw [treW_o (k := 4 + 3 * t) (by omega) (by omega), treW_o (k := 5 + 3 * t) (by omega) (by omega), treW_o (k := 6 + 3 * t) (by omega) (by omega)]
      exact h5 t (by omega)
  · rw [treW_o (k := 16 + 4 * i) (by omega) (by omega), treW_o (k := 17 + 4 * i) (by omega) (by omega), treW_o (k := 18 + 4 * i) (by omega) (by omega), treW_o (k := 19 + 4 * i) (by omega) (by omega)]
    obtain ⟨q1, q2⟩ := h6 i hi
    exact ⟨by omega, q2⟩
theorem addTree6 {σ : Hp} {j : Nat} {w : Wv} {Y : Int} {a b c : Int} (hR : RelW σ j w) (hw : WF Y w) (h4 : w 2 < 4) : ∃ σ', fX5_addTree σ j a b c = some (0, σ') ∧ RelW σ' j (treW w a b c) ∧ ∀ s' j', ¬ (isW s' ∧ j' = j) → σ' s' j' = σ s' j' := by
  have h3 := hw.2.2.2.1
  have h2 := hw.2.2.1
  obtain ⟨a1, a2, a3, a4, a5, a6, a7⟩ := hR
  obtain ⟨T, hT⟩ : ∃ T : Nat, w 2 = T := ⟨(w 2).toNat, by omega⟩
  rw [hT] at a4
  have hT2 : (w 2).toNat = T := by omega
  have w1 : wr ((T : Int) + 1) = (T : Int) + 1 := wr_of (by omega) (by omega)
  have r : ∀ (τ : Hp) (s k : Nat) (v : Int), s ≠ 5 → hup τ s j k v 5 j 10 = τ 5 j 10 := fun τ s k v hs => by rw [hup_s (fun z => hs z.symm)]
  refine ⟨hup (hup (hup (hup σ 13 j T a) 14 j T b) 15 j T c) 5 j 10 ((T : Int) + 1), ?_, ?_, fun s' j' h => ?_⟩
  · unfold fX5_addTree
    rw [a4, if_neg (by omega), gd_pos (by omega)]
    simp only [sq]
    rw [r _ 13 _ _ (by omega), a4, gd_pos (by omega), Int.toNat_natCast]
    rw [r _ 14 _ _ (by omega), r _ 13 _ _ (by omega), a4, gd_pos (by omega), Int.toNat_natCast]
    rw [r _ 15 _ _ (by omega), r _ 14 _ _ (by omega), r _ 13 _ _ (by omega), a4, w1]
  · unfold RelW
    rw [treW_2, treW_o (k := 0) (by omega) (by omega), treW_o (k := 1) (by omega) (by omega), treW_o (k := 3) (by omega) (by omega)]
    simp (disch := omega) only [hup_s, hup_k, hup_at]
    refine ⟨a1, a2, a3, by rw [hT], a5, fun t ht => ?_, fun i hi => ?_⟩
    · by_cases e : t = T
      · obtain ⟨q1, q2, q3⟩ := treW_new w a b c
        rw [hT2] at q1 q2 q3
        rw [e, q1, q2, q3, hup_at, hup_at, hup_at]
        exact ⟨rfl, rfl, rfl⟩
      · rw [treW_o (k := 4 + 3 * t) (by omega) (by omega), treW_o (k := 5 + 3 * t) (by omega) (by omega), treW_o (k := 6 + 3 * t) (by omega) (by omega)]
        simp only [hup_k e]
        exact a6 t (by omega)
    · rw [treW_o (k := 16 + 4 * i) (by omega) (by omega), treW_o (k := 17 + 4 * i) (by omega) (by omega), treW_o (k := 18 + 4 * i) (by omega) (by omega), treW_o (k := 19 + 4 * i) (by omega) (by omega)]
      exact a7 i hi
  · have hs : ∀ s, isW s → ¬ (s' = s ∧ j' = j) := fun s hs z => h ⟨z.1 ▸ hs, z.2⟩
    rw [hup_row, srow_ne (hs 5 (Or.inl rfl)), hup_row, srow_ne (hs 15 (Or.inr (by omega))), hup_row, srow_ne (hs 14 (Or.inr (by omega))), hup_row, srow_ne (hs 13 (Or.inr (by omega)))]
theorem kindHere4 {b : Nat → Int} {L : Nat} {σ : Hp} {p : Nat} (hL : L ≤ 140) (h : Cc b L σ p) : fX4_kindHere σ = some (fX7_kindOf (bat b L p), σ) := by
  unfold fX4_kindHere fX7_kindOf
  rw [here4 hL h, cl_pos]
  repeat' split
  all_goals first | rfl | omega
theorem kind_in {c : Int} (h : ¬ fX7_kindOf c = 0) : (1 ≤ fX7_kindOf c ∧ fX7_kindOf c ≤ 5) ∧ 97 ≤ c ∧ c ≤ 122 := by
  unfold fX7_kindOf at h ⊢
  repeat' split at h
  all_goals first | omega | (repeat' split) <;> omega
def oCW (σ σ' : Hp) : Prop := (∀ s j, s ≠ 4 → ¬ (isW s ∧ j = 1) → σ' s j = σ s j) ∧ σ' 4 0 1 = σ 4 0 1
def oMD (τ τ' : Hp) : Prop := (∀ s j, s ≠ 7 → ¬ (s = 28 ∧ j = 0) → τ' s j = τ s j) ∧ ∀ k, (k < 7 ∨ 12 < k) → τ' 7 0 k = τ 7 0 k
theorem oCW.rf {σ : Hp} : oCW σ σ := ⟨fun _ _ _ _ => rfl, rfl⟩
theorem oCW.tr {σ σ' σ'' : Hp} (h : oCW σ σ') (h' : oCW σ' σ'') : oCW σ σ'' := ⟨fun s j hs hw => (h'.1 s j hs hw).trans (h.1 s j hs hw), h'.2.trans h.2⟩
theorem oC.w {σ σ' : Hp} (h : oC σ σ') : oCW σ σ' := ⟨fun s j hs _ => h.1 s j hs, h.2⟩
theorem oMD.rf {τ : Hp} : oMD τ τ := ⟨fun _ _ _ _ => rfl, fun _ _ => rfl⟩
theorem oMD.tr {τ τ' τ'' : Hp} (h : oMD τ τ') (h' : oMD τ' τ'') : oMD τ τ'' := ⟨fun s j hs hw => (h'.1 s j hs hw).trans (h.1 s j hs hw), fun k hk => (h'.2 k hk).trans (h.2 k hk)⟩
theorem oM.d {τ τ' : Hp} (h : oM τ τ') : oMD τ τ' := ⟨fun s j hs _ => h.1 s j hs, h.2⟩
theorem isW_4 {s : Nat} (h : isW s) : s ≠ 4 ∧ s ≠ 12 := by
  rcases h with q | q <;> omega
theorem RelW.oc {σ σ' : Hp} {w : Wv} (h : RelW σ 1 w) (o : oC σ σ') : RelW σ' 1 w := h.cg (fun s hs => o.1 s 1 (isW_4 hs).1)
theorem Cc.wd {b : Nat → Int} {L : Nat} {σ σ' : Hp} {p : Nat} (h : Cc b L σ p) (o : ∀ s j, ¬ (isW s ∧ j = 1) → σ' s j = σ s j) : Cc b L σ' p := by
  have e12 : σ' 12 0 = σ 12 0 := o 12 0 (fun z => (isW_4 z.1).2 rfl)
  have e4 : σ' 4 0 = σ 4 0 := o 4 0 (fun z => (isW_4 z.1).1 rfl)
  unfold Cc
  rw [e12, e4]
  exact h
theorem Mw.dr {b : Nat → Int} {L : Nat} {fk : Int} {τ : Hp} {p : Nat} (h : Mw b L fk τ p) (f : Nat → Int) : Mw b L fk (srow τ 28 0 f) p := by
  have e7 : srow τ 28 0 f 7 0 = τ 7 0 := srow_ne (by omega)
  have e26 : srow τ 28 0 f 26 0 = τ 26 0 := srow_ne (by omega)
  unfold Mw Mt Lx
  rw [e7, e26]
  exact h
theorem Mf.dr {τ : Hp} {k q : Nat} (h : Mf τ k q) (f : Nat → Int) : Mf (srow τ 28 0 f) k q := by
  unfold Mf
  rw [srow_ne (by omega)]
  exact h
theorem t86_f {τ : Hp} {k q : Nat} (h : Mf τ k q) (v1 v2 v3 v4 w0 : Int) : jX7_readsTree_86 τ v1 v2 v3 v4 w0 = some (0, τ) := by
  unfold jX7_readsTree_86
  rw [take_f h, cl_pos, if_pos (well_0 h)]
theorem t51_f {τ : Hp} {k q : Nat} (h : Mf τ k q) (v1 w0 w1 w2 : Int) : jX7_readsTree_51 τ v1 w0 w1 w2 = some (0, τ) := by
  unfold jX7_readsTree_51
  rw [fig_f h, cl_pos, next_f h, cl_pos, t86_f h, t86_f h]
  exact ite_self _
theorem b_tree {b : Nat → Int} {L : Nat} {fk : Int} {p T : Nat} {D : Wv} (hL : L ≤ 140) (hb : ∀ k, k < L → 0 ≤ b k ∧ b k ≤ 255) (hp : p ≤ L) (hk : ¬ fX7_kindOf (bat b L p) = 0) (hD : WF 999 D) (hT : D 2 = T) :
    (∃ (p' : Nat) (W : Wv), p' ≤ L ∧ WF 999 W ∧ W 2 = T + 1 ∧ W 3 = D 3 ∧ W 0 = D 0 ∧ (∀ σ, Cc b L σ p → RelW σ 1 D → ∃ σ', fX4_readsTree σ 1 = some (1, σ') ∧ Cc b L σ' p' ∧ RelW σ' 1 W ∧ oCW σ σ') ∧ (∀ τ, Mw b L fk τ p → τ 28 0 = D → ∃ τ', fX7_readsTree τ = some (0, τ') ∧ Mw b L fk τ' p' ∧ τ' 28 0 = W ∧ oMD τ τ')) ∨
    (∃ k q : Nat, (∀ σ, Cc b L σ p → RelW σ 1 D → ∃ σ', fX4_readsTree σ 1 = some (0, σ') ∧ Cf σ' k q ∧ RelW σ' 1 D ∧ oCW σ σ') ∧ (∀ τ, Mw b L fk τ p → τ 28 0 = D → ∃ τ', fX7_readsTree τ = some (0, τ') ∧ Mf τ' k q ∧ oMD τ τ')) := by
  obtain ⟨⟨hk1, hk2⟩, hc1, hc2⟩ := kind_in hk
  have h2 := hD.2.2.1
  have hpl : p < L := by
    unfold bat at hc1
    split at hc1
    · assumption
    · omega
  have tokv : ∀ τ, Mw b L fk τ p → fX7_kindOf (τ 7 0 12) = fX7_kindOf (bat b L p) := fun τ h => by rw [(tok_ch h hp (by omega)).1]
  by_cases h4 : D 2 < 4
  case neg =>
    refine Or.inr ⟨3, p, fun σ h hR => ?_, fun τ h hd => ?_⟩
    · obtain ⟨f1, f2, f3⟩ := fails4 σ 3 p
      have f1' : fX4_fails σ 3 p = some (0, hup (hup σ 4 0 2 ((3 : Nat) : Int)) 4 0 3 p) := f1
      refine ⟨_, ?_, f2, hR.oc f3, f3.w⟩
      unfold fX4_readsTree
      rw [hR.2.2.2.1, if_neg h4, h.2.2, f1', cl_pos, gd_pos (by omega)]
    · obtain ⟨τ', e, h1, o1⟩ := take_no h 3
      have e' : fX7_takes τ 0 3 = some (0, τ') := e
      refine ⟨τ', ?_, h1, o1.d⟩
      unfold fX7_readsTree jX7_readsTree_24
      rw [hd, if_pos (by omega), e', cl_pos, t51_f h1, t51_f h1]
      exact ite_self _
  -- the letter, both sides
  have cL : ∀ σ, Cc b L σ p → RelW σ 1 D → Cc b L (hup σ 4 0 4 ((p + 1 : Nat) : Int)) (p + 1) ∧ oC σ (hup σ 4 0 4 ((p + 1 : Nat) : Int)) ∧ fX4_readsTree σ 1 = KN (hup σ 4 0 4 ((p + 1 : Nat) : Int)) 10 90 (fun r10 σ11 => KS σ11 44 (fun σ17 => KN σ17 0 9 (fun r22 σ23 => KS σ23 59 (fun σ29 => cl (fX5_addTree σ29 1 (fX7_kindOf (bat b L p)) r10 r22) (fun _ σ35 => some (1, σ35)))))) := by
    intro σ h hR
    obtain ⟨h1, o1⟩ := h.to (q := p + 1)
    refine ⟨h1, o1, ?_⟩
    have e : wr ((p : Int) + 1) = ((p + 1 : Nat) : Int) := by rw [wr_of (by omega) (by omega)]; omega
    unfold fX4_readsTree
    rw [hR.2.2.2.1, if_pos h4, kindHere4 hL h, cl_pos, h.2.2, e]
    rfl
  have mL : ∀ τ, Mw b L fk τ p → τ 28 0 = D → ∃ τ', Mw b L fk τ' (p + 1) ∧ τ' 28 0 = D ∧ oM τ τ' ∧ fX7_readsTree τ = jX7_readsTree_51 τ' (fX7_kindOf (bat b L p)) T 3 4 := by
    intro τ h hd
    obtain ⟨τ', e, h1, o1⟩ := take_ch hL hb h hp (by omega) (by omega) (v1 := 1) 3 (by omega)
    have d1 : τ' 28 0 = D := by rw [o1.1 28 0 (by omega)]; exact hd
    refine ⟨τ', h1, d1, o1, ?_⟩
    unfold fX7_readsTree jX7_readsTree_24
    rw [hd, if_neg (by omega), tokv τ h, e, cl_pos, d1, if_neg (by omega), hT]
  have eT : wr (4 + wr (3 * (T : Int))) = ((4 + 3 * T : Nat) : Int) := wr4t (by omega)
  rcases c_num (fk := fk) 10 90 hL hb (show p + 1 ≤ L by omega) with ⟨p2, g, g1, g2, hp2, cn, mn⟩ | ⟨k, cn, mn⟩
  case inr =>
    refine Or.inr ⟨k, p + 1, fun σ h hR => ?_, fun τ h hd => ?_⟩
    · obtain ⟨h1, o1, e1⟩ := cL σ h hR
      obtain ⟨σ2, -, e2, h2, o2⟩ := cn _ h1
      exact ⟨σ2, e1.trans (e2 _), h2, (hR.oc o1).oc o2, (o1.tr o2).w⟩
    · obtain ⟨τ1, h1, d1, o1, e1⟩ := mL τ h hd
      obtain ⟨-, τ2, e2, h2, o2⟩ := mn τ1 h1
      refine ⟨τ2, ?_, h2, (o1.tr o2).d⟩
      rw [e1]
      unfold jX7_readsTree_51
      rw [e2, cl_pos, next_f h2, cl_pos, t86_f h2, t86_f h2]
      exact ite_self _
  rcases c_next (fk := fk) 0 9 hL hb hp2 with ⟨p3, s, s1, s2, hp3, cx, mx⟩ | ⟨k, q, cx, mx⟩
  case inr =>
    refine Or.inr ⟨k, q, fun σ h hR => ?_, fun τ h hd => ?_⟩
    · obtain ⟨h1, o1, e1⟩ := cL σ h hR
      obtain ⟨σ2, -, e2, h2, o2⟩ := cn _ h1
      obtain ⟨σ3, e3, h3, o3⟩ := cx σ2 h2
      exact ⟨σ3, (e1.trans (e2 _)).trans (e3 _), h3, ((hR.oc o1).oc o2).oc o3, ((o1.tr o2).tr o3).w⟩
    · obtain ⟨τ1, h1, d1, o1, e1⟩ := mL τ h hd
      obtain ⟨τ2, -, -, -, e2, h2, o2⟩ := mn τ1 h1
      obtain ⟨τ3, e3, h3, o3⟩ := mx τ2 h2
      refine ⟨τ3, ?_, h3, ((o1.tr o2).tr o3).d⟩
      rw [e1]
      unfold jX7_readsTree_51
      rw [e2, cl_pos, e3, cl_pos, t86_f h3, t86_f h3]
      exact ite_self _
  rcases c_sgn (fk := fk) (v := 59) (tk := 4) (Or.inr ⟨rfl, rfl⟩) hL hb hp3 with ⟨hp4, cs, ms⟩ | ⟨cs, ms⟩
  case inr =>
    refine Or.inr ⟨1, p3, fun σ h hR => ?_, fun τ h hd => ?_⟩
    · obtain ⟨h1, o1, e1⟩ := cL σ h hR
      obtain ⟨σ2, -, e2, h2, o2⟩ := cn _ h1
      obtain ⟨σ3, e3, h3, o3⟩ := cx σ2 h2
      obtain ⟨σ4, e4, h4', o4⟩ := cs σ3 h3
      exact ⟨σ4, ((e1.trans (e2 _)).trans (e3 _)).trans (e4 _), h4', (((hR.oc o1).oc o2).oc o3).oc o4, (((o1.tr o2).tr o3).tr o4).w⟩
    · obtain ⟨τ1, h1, d1, o1, e1⟩ := mL τ h hd
      obtain ⟨τ2, -, -, -, e2, h2, o2⟩ := mn τ1 h1
      obtain ⟨τ3, e3, h3, o3⟩ := mx τ2 h2
      obtain ⟨t4, τ4, e4, h4', o4⟩ := ms τ3 h3
      refine ⟨τ4, ?_, h4', (((o1.tr o2).tr o3).tr o4).d⟩
      rw [e1]
      unfold jX7_readsTree_51
      rw [e2, cl_pos, e3, cl_pos, if_neg t4]
      unfold jX7_readsTree_86
      rw [e4, cl_pos, if_pos (well_0 h4')]
  refine Or.inl ⟨p3 + 1, treW D (fX7_kindOf (bat b L p)) g s, hp4, hD.tre h4 ⟨hk1, hk2⟩ (by omega) (by omega), by rw [treW_2, hT], treW_o (by omega) (by omega), treW_o (by omega) (by omega), fun σ h hR => ?_, fun τ h hd => ?_⟩
  · obtain ⟨h1, o1, e1⟩ := cL σ h hR
    obtain ⟨σ2, -, e2, h2, o2⟩ := cn _ h1
    obtain ⟨σ3, e3, h3, o3⟩ := cx σ2 h2
    obtain ⟨σ4, e4, h4', o4⟩ := cs σ3 h3
    have R4 := (((hR.oc o1).oc o2).oc o3).oc o4
    obtain ⟨σ5, e5, R5, o5⟩ := addTree6 (a := fX7_kindOf (bat b L p)) (b := g) (c := s) R4 hD h4
    have o14 := ((o1.tr o2).tr o3).tr o4
    refine ⟨σ5, (((e1.trans (e2 _)).trans (e3 _)).trans (e4 _)).trans ?_, h4'.wd o5, R5, ?_⟩
    · rw [e5, cl_pos]
    · exact ⟨fun s' j' hs hw => by rw [o5 s' j' hw]; exact o14.1 s' j' hs, by rw [o5 4 0 (fun z => (isW_4 z.1).1 rfl)]; exact o14.2⟩
  · obtain ⟨τ1, h1, d1, o1, e1⟩ := mL τ h hd
    obtain ⟨τ2, -, -, -, e2, h2, o2⟩ := mn τ1 h1
    obtain ⟨τ3, e3, h3, o3⟩ := mx τ2 h2
    obtain ⟨t4, x, τ4, e4, h4', o4⟩ := ms τ3 h3
    have o14 := ((o1.tr o2).tr o3).tr o4
    have d4 : τ4 28 0 = D := by rw [o14.1 28 0 (by omega)]; exact hd
    refine ⟨srow τ4 28 0 (treW D (fX7_kindOf (bat b L p)) g s), ?_, h4'.dr _, srow_at _ _ _ _, fun s' j' hs hw => by rw [srow_ne hw]; exact o14.1 s' j' hs, fun k hk => by rw [srow_ne (by omega)]; exact o14.2 k hk⟩
    have w5 : wr (((4 + 3 * T : Nat) : Int) + 1) = ((5 + 3 * T : Nat) : Int) := by rw [wr_of (by omega) (by omega)]; omega
    have w6 : wr (((4 + 3 * T : Nat) : Int) + 2) = ((6 + 3 * T : Nat) : Int) := by rw [wr_of (by omega) (by omega)]; omega
    have wT : wr ((T : Int) + 1) = (T : Int) + 1 := wr_of (by omega) (by omega)
    have hadd : treW D (fX7_kindOf (bat b L p)) g s = up1 (up1 (up1 (up1 D (4 + 3 * T) (fX7_kindOf (bat b L p))) (5 + 3 * T) g) (6 + 3 * T) s) 2 ((T : Int) + 1) := by
      unfold treW
      rw [hT, Int.toNat_natCast]
    rw [e1]
    unfold jX7_readsTree_51
    rw [e2, cl_pos, e3, cl_pos, if_pos t4]
    unfold jX7_readsTree_86
    rw [eT, e4, cl_pos, if_neg (well_1 h4'.1.2.2.2), w5, w6, gd_pos (by omega)]
    simp only [sq]
    rw [gd_pos (by omega), gd_pos (by omega)]
    simp only [Int.toNat_natCast]
    rw [hup_row τ4, hup_srow, hup_srow, srow_at, d4]
    have ed : up1 (up1 (up1 D (4 + 3 * T) (fX7_kindOf (bat b L p))) (5 + 3 * T) g) (6 + 3 * T) s 2 = (T : Int) := by
      rw [up1_ne (by omega), up1_ne (by omega), up1_ne (by omega), hT]
    rw [ed, wT, hup_srow, ← hadd]
