/-! a cut more, read -/
theorem c175_f {τ : Hp} {k q : Nat} (h : Mf τ k q) (v1 v2 v3 v4 v5 w0 : Int) : jX7_readsCut_175 τ v1 v2 v3 v4 v5 w0 = some (0, τ) := by
  unfold jX7_readsCut_175
  rw [take_f h, cl_pos, if_pos (well_0 h)]
theorem c146_f {τ : Hp} {k q : Nat} (h : Mf τ k q) (v1 v2 v3 w0 : Int) : jX7_readsCut_146 τ v1 v2 v3 w0 = some (0, τ) := by
  unfold jX7_readsCut_146
  rw [take_f h, cl_pos, next_f h, cl_pos, c175_f h, c175_f h]
  exact ite_self _
theorem c112_f {τ : Hp} {k q : Nat} {Y : Int} (h : Mf τ k q) (hw : WF Y (τ 28 0)) (v1 v2 v3 : Int) : jX7_readsCut_112 τ v1 v2 v3 = some (0, τ) := by
  obtain ⟨r, e, -, -⟩ := cutAt7 (σ := τ) (s := 28) (j := 0) rfl (by show 48 ≤ 48; omega) hw v2 (τ 7 0 12)
  unfold jX7_readsCut_112
  rw [c146_f h, e, cl_pos, c146_f h, c146_f h]
  rw [ite_self, ite_self]
theorem c85_f {τ : Hp} {k q : Nat} {Y : Int} (h : Mf τ k q) (hw : WF Y (τ 28 0)) (v1 v2 v3 w0 : Int) : jX7_readsCut_85 τ v1 v2 v3 w0 = some (0, τ) := by
  unfold jX7_readsCut_85
  rw [take_f h, cl_pos, if_pos (well_0 h), c112_f h hw]
theorem c46_f {τ : Hp} {k q : Nat} {Y : Int} (h : Mf τ k q) (hw : WF Y (τ 28 0)) (w0 w1 w2 : Int) : jX7_readsCut_46 τ w0 w1 w2 = some (0, τ) := by
  unfold jX7_readsCut_46
  rw [fig_f h, cl_pos, next_f h, cl_pos, c85_f h hw, c85_f h hw]
  exact ite_self _
theorem b_cut {b : Nat → Int} {L : Nat} {fk : Int} {p N T : Nat} {D : Wv} (hL : L ≤ 140) (hb : ∀ k, k < L → 0 ≤ b k ∧ b k ≤ 255) (hp : p ≤ L) (hk : bat b L p = 99) (hD : WF 999 D) (hN : D 3 = N) (hT : D 2 = T) :
    (∃ (p' : Nat) (W : Wv), p' ≤ L ∧ WF 999 W ∧ W 2 = D 2 ∧ W 3 = N + 1 ∧ W 0 = D 0 ∧ (∀ σ, Cc b L σ p → RelW σ 1 D → ∃ σ', fX4_readsCut σ 1 = some (1, σ') ∧ Cc b L σ' p' ∧ RelW σ' 1 W ∧ oCW σ σ') ∧ (∀ τ, Mw b L fk τ p → τ 28 0 = D → ∃ τ', fX7_readsCut τ = some (0, τ') ∧ Mw b L fk τ' p' ∧ τ' 28 0 = W ∧ oMD τ τ')) ∨
    (∃ k q : Nat, (∀ σ, Cc b L σ p → RelW σ 1 D → ∃ σ', fX4_readsCut σ 1 = some (0, σ') ∧ Cf σ' k q ∧ RelW σ' 1 D ∧ oCW σ σ') ∧ (∀ τ, Mw b L fk τ p → τ 28 0 = D → ∃ τ', fX7_readsCut τ = some (0, τ') ∧ Mf τ' k q ∧ oMD τ τ')) := by
  have h2 := hD.2.2.1
  have h3 := hD.2.2.2.1
  have hpl : p < L := by
    unfold bat at hk
    split at hk
    · assumption
    · omega
  by_cases h8 : D 3 < 8
  case neg =>
    refine Or.inr ⟨3, p, fun σ h hR => ?_, fun τ h hd => ?_⟩
    · obtain ⟨f1, f2, f3⟩ := fails4 σ 3 p
      have f1' : fX4_fails σ 3 p = some (0, hup (hup σ 4 0 2 ((3 : Nat) : Int)) 4 0 3 p) := f1
      refine ⟨_, ?_, f2, hR.oc f3, f3.w⟩
      unfold fX4_readsCut
      rw [hR.2.2.2.2.1, if_neg h8, h.2.2, f1', cl_pos, gd_pos (by omega)]
    · obtain ⟨τ', e, h1, o1⟩ := take_no h 3
      have e' : fX7_takes τ 0 3 = some (0, τ') := e
      have d1 : WF 999 (τ' 28 0) := by rw [o1.1 28 0 (by omega), hd]; exact hD
      refine ⟨τ', ?_, h1, o1.d⟩
      unfold fX7_readsCut jX7_readsCut_17
      rw [hd, if_pos (by omega), e', cl_pos, c46_f h1 d1, c46_f h1 d1]
      exact ite_self _
  have eT1 : wr ((T : Int) - 1) = (T : Int) - 1 := wr_of (by omega) (by omega)
  have cL : ∀ σ, Cc b L σ p → RelW σ 1 D → Cc b L (hup σ 4 0 4 ((p + 1 : Nat) : Int)) (p + 1) ∧ oC σ (hup σ 4 0 4 ((p + 1 : Nat) : Int)) ∧ fX4_readsCut σ 1 = KN (hup σ 4 0 4 ((p + 1 : Nat) : Int)) 0 ((T : Int) - 1) (fun r5 σ6 => KS σ6 44 (fun σ12 => KN σ12 0 25 (fun r17 σ18 => KS σ18 44 (fun σ24 => cl (fX4_numberRead σ24 0 59) (fun r29 σ30 => if 0 ≤ r29 then cl (fX5_hasCutAt σ30 1 r5 r29) (fun r35 σ36 => if r35 = 0 then KS σ36 44 (fun σ42 => KN σ42 1 20 (fun r47 σ48 => KS σ48 59 (fun σ54 => cl (fX5_addCut σ54 1 r5 r17 r29 r47) (fun _ σ60 => some (1, σ60))))) else cl (fX4_fails σ36 2 (σ24 4 0 4)) (fun r64 σ65 => gd (r64 = 0 ∨ r64 = 1) (some (r64, σ65)))) else some (0, σ30)))))) := by
    intro σ h hR
    obtain ⟨h1, o1⟩ := h.to (q := p + 1)
    refine ⟨h1, o1, ?_⟩
    have e : wr ((p : Int) + 1) = ((p + 1 : Nat) : Int) := by rw [wr_of (by omega) (by omega)]; omega
    have e10 : hup σ 4 0 4 ((p + 1 : Nat) : Int) 5 1 10 = (T : Int) := by rw [hup_s (by omega), hR.2.2.2.1, hT]
    unfold fX4_readsCut
    rw [hR.2.2.2.2.1, if_pos h8, h.2.2, e]
    simp only [sq]
    rw [e10, eT1]
  have mL : ∀ τ, Mw b L fk τ p → τ 28 0 = D → ∃ τ', Mw b L fk τ' (p + 1) ∧ τ' 28 0 = D ∧ oM τ τ' ∧ fX7_readsCut τ = jX7_readsCut_46 τ' N 4 16 := by
    intro τ h hd
    obtain ⟨τ', e, h1, o1⟩ := take_ch hL hb h hp (by omega) (by omega) (v1 := 1) 3 (by omega)
    have d1 : τ' 28 0 = D := by rw [o1.1 28 0 (by omega)]; exact hd
    refine ⟨τ', h1, d1, o1, ?_⟩
    unfold fX7_readsCut jX7_readsCut_17
    rw [hd, if_neg (by omega), e, cl_pos, d1, if_neg (by omega), hN]
  have eN : wr (16 + wr (4 * (N : Int))) = ((16 + 4 * N : Nat) : Int) := wr16c (by omega)
  have dM : ∀ {τ τ' : Hp}, oM τ τ' → τ 28 0 = D → τ' 28 0 = D := fun o hd => by rw [o.1 28 0 (by omega)]; exact hd
  have dW : ∀ {τ : Hp}, τ 28 0 = D → WF 999 (τ 28 0) := fun hd => by rw [hd]; exact hD
  -- the tree
  rcases c_num (fk := fk) 0 ((T : Int) - 1) hL hb (show p + 1 ≤ L by omega) with ⟨p2, t, t1, t2, hp2, cn, mn⟩ | ⟨k, cn, mn⟩
  case inr =>
    refine Or.inr ⟨k, p + 1, fun σ h hR => ?_, fun τ h hd => ?_⟩
    · obtain ⟨h1, o1, e1⟩ := cL σ h hR
      obtain ⟨σ2, -, e2, h2, o2⟩ := cn _ h1
      exact ⟨σ2, e1.trans (e2 _), h2, (hR.oc o1).oc o2, (o1.tr o2).w⟩
    · obtain ⟨τ1, h1, d1, o1, e1⟩ := mL τ h hd
      obtain ⟨-, τ2, e2, h2, o2⟩ := mn τ1 h1
      refine ⟨τ2, ?_, h2, (o1.tr o2).d⟩
      have w2 := dW (dM o2 d1)
      rw [e1]
      unfold jX7_readsCut_46
      rw [d1, hT, eT1, e2, cl_pos, next_f h2, cl_pos, c85_f h2 w2, c85_f h2 w2]
      exact ite_self _
  -- the letter
  rcases c_next (fk := fk) 0 25 hL hb hp2 with ⟨p3, l, l1, l2, hp3, cx, mx⟩ | ⟨k, q, cx, mx⟩
  case inr =>
    refine Or.inr ⟨k, q, fun σ h hR => ?_, fun τ h hd => ?_⟩
    · obtain ⟨h1, o1, e1⟩ := cL σ h hR
      obtain ⟨σ2, -, e2, h2, o2⟩ := cn _ h1
      obtain ⟨σ3, e3, h3, o3⟩ := cx σ2 h2
      exact ⟨σ3, (e1.trans (e2 _)).trans (e3 _), h3, ((hR.oc o1).oc o2).oc o3, ((o1.tr o2).tr o3).w⟩
    · obtain ⟨τ1, h1, d1, o1, e1⟩ := mL τ h hd
      obtain ⟨τ2, -, -, -, e2, h2, o2⟩ := mn τ1 h1
      obtain ⟨τ3, e3, h3, o3⟩ := mx τ2 h2
      refine ⟨τ3, ?_, h3, ((o1.tr o2).tr o3).d⟩
      have w3 := dW (dM o3 (dM o2 d1))
      rw [e1]
      unfold jX7_readsCut_46
      rw [d1, hT, eT1, e2, cl_pos, e3, cl_pos, c85_f h3 w3, c85_f h3 w3]
      exact ite_self _
  -- the comma
  rcases c_sgn (fk := fk) (v := 44) (tk := 3) (Or.inl ⟨rfl, rfl⟩) hL hb hp3 with ⟨hp4, cs, ms⟩ | ⟨cs, ms⟩
  case inr =>
    refine Or.inr ⟨1, p3, fun σ h hR => ?_, fun τ h hd => ?_⟩
    · obtain ⟨h1, o1, e1⟩ := cL σ h hR
      obtain ⟨σ2, -, e2, h2, o2⟩ := cn _ h1
      obtain ⟨σ3, e3, h3, o3⟩ := cx σ2 h2
      obtain ⟨σ4, e4, h4', o4⟩ := cs σ3 h3
      exact ⟨σ4, ((e1.trans (e2 _)).trans (e3 _)).trans (e4 _), h4', (((hR.oc o1).oc o2).oc o3).oc o4, (((o1.tr o2).tr o3).tr o4).w⟩
    · obtain ⟨τ1, h1, d1, o1, e1⟩ := mL τ h hd
      obtain ⟨τ2, -, -, -, e2, h2, o2⟩ := mn τ1 h1
      obtain ⟨τ3, e3, h3, o3⟩ := mx τ2 h2
      obtain ⟨t4, τ4, e4, h4', o4⟩ := ms τ3 h3
      refine ⟨τ4, ?_, h4', (((o1.tr o2).tr o3).tr o4).d⟩
      have w4 := dW (dM o4 (dM o3 (dM o2 d1)))
      rw [e1]
      unfold jX7_readsCut_46
      rw [d1, hT, eT1, e2, cl_pos, e3, cl_pos, if_neg t4]
      unfold jX7_readsCut_85
      rw [e4, cl_pos, if_pos (well_0 h4'), c112_f h4' w4]
  -- up to the place, both sides
  have cP : ∀ σ, Cc b L σ p → RelW σ 1 D → ∃ σ4, Cc b L σ4 (p3 + 1) ∧ RelW σ4 1 D ∧ oC σ σ4 ∧ fX4_readsCut σ 1 = cl (fX4_numberRead σ4 0 59) (fun r29 σ30 => if 0 ≤ r29 then cl (fX5_hasCutAt σ30 1 t r29) (fun r35 σ36 => if r35 = 0 then KS σ36 44 (fun σ42 => KN σ42 1 20 (fun r47 σ48 => KS σ48 59 (fun σ54 => cl (fX5_addCut σ54 1 t l r29 r47) (fun _ σ60 => some (1, σ60))))) else cl (fX4_fails σ36 2 (σ4 4 0 4)) (fun r64 σ65 => gd (r64 = 0 ∨ r64 = 1) (some (r64, σ65)))) else some (0, σ30)) := by
    intro σ h hR
    obtain ⟨h1, o1, e1⟩ := cL σ h hR
    obtain ⟨σ2, -, e2, h2, o2⟩ := cn _ h1
    obtain ⟨σ3, e3, h3, o3⟩ := cx σ2 h2
    obtain ⟨σ4, e4, h4', o4⟩ := cs σ3 h3
    exact ⟨σ4, h4', (((hR.oc o1).oc o2).oc o3).oc o4, ((o1.tr o2).tr o3).tr o4, ((e1.trans (e2 _)).trans (e3 _)).trans (e4 _)⟩
  have mP : ∀ τ, Mw b L fk τ p → τ 28 0 = D → ∃ τ4, Mw b L fk τ4 (p3 + 1) ∧ τ4 28 0 = D ∧ oM τ τ4 ∧ fX7_readsCut τ = if τ4 7 0 11 = 2 then jX7_readsCut_112 τ4 ((16 + 4 * N : Nat) : Int) t l else cl (fX7_takes τ4 0 1) (fun r27 σ28 => jX7_readsCut_112 σ28 ((16 + 4 * N : Nat) : Int) t l) := by
    intro τ h hd
    obtain ⟨τ1, h1, d1, o1, e1⟩ := mL τ h hd
    obtain ⟨τ2, -, -, -, e2, h2, o2⟩ := mn τ1 h1
    obtain ⟨τ3, e3, h3, o3⟩ := mx τ2 h2
    obtain ⟨t4, x, τ4, e4, h4', o4⟩ := ms τ3 h3
    refine ⟨τ4, h4', dM o4 (dM o3 (dM o2 d1)), ((o1.tr o2).tr o3).tr o4, ?_⟩
    rw [e1]
    unfold jX7_readsCut_46
    rw [d1, hT, eT1, e2, cl_pos, e3, cl_pos, if_pos t4, eN]
    unfold jX7_readsCut_85
    rw [e4, cl_pos, if_neg (well_1 h4'.1.2.2.2)]
  -- the place
  rcases c_num (fk := fk) 0 59 hL hb hp4 with ⟨p5, v, v1, v2, hp5, cn5, mn5⟩ | ⟨k, cn5, mn5⟩
  case inr =>
    refine Or.inr ⟨k, p3 + 1, fun σ h hR => ?_, fun τ h hd => ?_⟩
    · obtain ⟨σ4, h4', R4, o4, e4⟩ := cP σ h hR
      obtain ⟨σ5, e5, -, h5, o5⟩ := cn5 σ4 h4'
      refine ⟨σ5, ?_, h5, R4.oc o5, (o4.tr o5).w⟩
      rw [e4, e5, cl_pos, if_neg (by omega)]
    · obtain ⟨τ4, h4', d4, o4, e4⟩ := mP τ h hd
      obtain ⟨hkk, -⟩ := mn5 τ4 h4'
      rcases hkk with ⟨q1, q2⟩ | ⟨q1, q2, q3⟩
      · subst q2
        obtain ⟨τ5, e5, h5, o5⟩ := take_no h4' 1
        have e5' : fX7_takes τ4 0 1 = some (0, τ5) := e5
        refine ⟨τ5, ?_, h5, (o4.tr o5).d⟩
        rw [e4, if_neg q1, e5', cl_pos, c112_f h5 (dW (dM o5 d4))]
      · subst q2
        obtain ⟨τ5, e5, h5, o5⟩ := take_no h4' 2
        have e5' : fX7_takes τ4 0 2 = some (0, τ5) := e5
        refine ⟨τ5, ?_, h5, (o4.tr o5).d⟩
        rw [e4, if_pos q1]
        unfold jX7_readsCut_112
        rw [if_pos (in_0.mpr q3)]
        unfold jX7_readsCut_146
        rw [e5', cl_pos, next_f h5, cl_pos, c175_f h5, c175_f h5]
        exact ite_self _
  have hasM : ∀ τ : Hp, τ 28 0 = D → ∃ r, fX7_isCutAt τ 28 0 t v = some (r, τ) ∧ (r = 0 ∨ r = 1) ∧ (r = 1 ↔ hasW D t v (D 3).toNat) := fun τ hd => cutAt7 (σ := τ) (s := 28) (j := 0) hd (by show 48 ≤ 48; omega) hD t v
  -- one stands there
  by_cases hat : hasW D t v (D 3).toNat
  · refine Or.inr ⟨2, p3 + 1, fun σ h hR => ?_, fun τ h hd => ?_⟩
    · obtain ⟨σ4, h4', R4, o4, e4⟩ := cP σ h hR
      obtain ⟨σ5, e5, -, h5, o5⟩ := cn5 σ4 h4'
      obtain ⟨r, er, r1, i1⟩ := hasAt6 (R4.oc o5) hD t v
      obtain ⟨f1, f2, f3⟩ := fails4 σ5 2 (p3 + 1)
      have f1' : fX4_fails σ5 2 ((p3 + 1 : Nat) : Int) = some (0, hup (hup σ5 4 0 2 ((2 : Nat) : Int)) 4 0 3 ((p3 + 1 : Nat) : Int)) := f1
      refine ⟨_, ?_, f2, (R4.oc o5).oc f3, ((o4.tr o5).tr f3).w⟩
      have hr := i1.mpr hat
      rw [e4, e5, cl_pos, if_pos v1.1, er, cl_pos, if_neg (by omega), h4'.2.2, f1', cl_pos, gd_pos (by omega)]
    · obtain ⟨τ4, h4', d4, o4, e4⟩ := mP τ h hd
      obtain ⟨-, q1, q2, -, -, -, -⟩ := mn5 τ4 h4'
      obtain ⟨r, er, r1, i1⟩ := hasM τ4 d4
      have hr := i1.mpr hat
      obtain ⟨τ5, e5, h5, o5⟩ := take_no h4' 2
      have e5' : fX7_takes τ4 0 2 = some (0, τ5) := e5
      refine ⟨τ5, ?_, h5, (o4.tr o5).d⟩
      rw [e4, if_pos q1]
      unfold jX7_readsCut_112
      rw [q2, if_neg (in_1 v2), er, cl_pos, if_neg (by omega)]
      unfold jX7_readsCut_146
      rw [e5', cl_pos, next_f h5, cl_pos, c175_f h5, c175_f h5]
      exact ite_self _
  have cQ : ∀ σ, Cc b L σ p → RelW σ 1 D → ∃ σ5, Cc b L σ5 p5 ∧ RelW σ5 1 D ∧ oC σ σ5 ∧ fX4_readsCut σ 1 = KS σ5 44 (fun σ42 => KN σ42 1 20 (fun r47 σ48 => KS σ48 59 (fun σ54 => cl (fX5_addCut σ54 1 t l v r47) (fun _ σ60 => some (1, σ60))))) := by
    intro σ h hR
    obtain ⟨σ4, h4', R4, o4, e4⟩ := cP σ h hR
    obtain ⟨σ5, e5, -, h5, o5⟩ := cn5 σ4 h4'
    obtain ⟨r, er, r1, i1⟩ := hasAt6 (R4.oc o5) hD t v
    have hr : r = 0 := by
      rcases r1 with z | z
      · exact z
      · exact absurd (i1.mp z) hat
    refine ⟨σ5, h5, R4.oc o5, o4.tr o5, ?_⟩
    rw [e4, e5, cl_pos, if_pos v1.1, er, cl_pos, if_pos hr]
  have mQ : ∀ τ, Mw b L fk τ p → τ 28 0 = D → ∃ τ5, Mw b L fk τ5 p5 ∧ τ5 28 0 = D ∧ oM τ τ5 ∧ fX7_readsCut τ = cl (fX7_next τ5 1 20) (fun r45 σ46 => if σ46 7 0 11 = 4 then jX7_readsCut_175 σ46 ((16 + 4 * N : Nat) : Int) t l v r45 1 else jX7_readsCut_175 σ46 ((16 + 4 * N : Nat) : Int) t l v r45 0) := by
    intro τ h hd
    obtain ⟨τ4, h4', d4, o4, e4⟩ := mP τ h hd
    obtain ⟨-, q1, q2, q3, -, -, -⟩ := mn5 τ4 h4'
    obtain ⟨r, er, r1, i1⟩ := hasM τ4 d4
    have hr : r = 0 := by
      rcases r1 with z | z
      · exact z
      · exact absurd (i1.mp z) hat
    obtain ⟨τ5, e5, h5, o5⟩ := take_ok hL hb h4' q3 hp5 2 (v1 := 1) (by omega)
    refine ⟨τ5, h5, dM o5 d4, o4.tr o5, ?_⟩
    rw [e4, if_pos q1]
    unfold jX7_readsCut_112
    rw [q2, if_neg (in_1 v2), er, cl_pos, if_pos hr]
    unfold jX7_readsCut_146
    rw [e5, cl_pos, q2]
  -- the depth
  rcases c_next (fk := fk) 1 20 hL hb hp5 with ⟨p6, d, d1, d2, hp6, cx6, mx6⟩ | ⟨k, q, cx6, mx6⟩
  case inr =>
    refine Or.inr ⟨k, q, fun σ h hR => ?_, fun τ h hd => ?_⟩
    · obtain ⟨σ5, h5, R5, o5, e5⟩ := cQ σ h hR
      obtain ⟨σ6, e6, h6, o6⟩ := cx6 σ5 h5
      exact ⟨σ6, e5.trans (e6 _), h6, R5.oc o6, (o5.tr o6).w⟩
    · obtain ⟨τ5, h5, d5, o5, e5⟩ := mQ τ h hd
      obtain ⟨τ6, e6, h6, o6⟩ := mx6 τ5 h5
      refine ⟨τ6, ?_, h6, (o5.tr o6).d⟩
      rw [e5, e6, cl_pos, c175_f h6, c175_f h6]
      exact ite_self _
  rcases c_sgn (fk := fk) (v := 59) (tk := 4) (Or.inr ⟨rfl, rfl⟩) hL hb hp6 with ⟨hp7, cs7, ms7⟩ | ⟨cs7, ms7⟩
  case inr =>
    refine Or.inr ⟨1, p6, fun σ h hR => ?_, fun τ h hd => ?_⟩
    · obtain ⟨σ5, h5, R5, o5, e5⟩ := cQ σ h hR
      obtain ⟨σ6, e6, h6, o6⟩ := cx6 σ5 h5
      obtain ⟨σ7, e7, h7, o7⟩ := cs7 σ6 h6
      exact ⟨σ7, (e5.trans (e6 _)).trans (e7 _), h7, (R5.oc o6).oc o7, ((o5.tr o6).tr o7).w⟩
    · obtain ⟨τ5, h5, d5, o5, e5⟩ := mQ τ h hd
      obtain ⟨τ6, e6, h6, o6⟩ := mx6 τ5 h5
      obtain ⟨t7, τ7, e7, h7, o7⟩ := ms7 τ6 h6
      refine ⟨τ7, ?_, h7, ((o5.tr o6).tr o7).d⟩
      rw [e5, e6, cl_pos, if_neg t7]
      unfold jX7_readsCut_175
      rw [e7, cl_pos, if_pos (well_0 h7)]
  refine Or.inl ⟨p6 + 1, addW D t l v d, hp7, hD.add h8 (by omega) (by omega) (by omega) (by omega), addW_lo _ _ _ _ _ (by omega) (by omega), by rw [addW_3, hN], addW_lo _ _ _ _ _ (by omega) (by omega), fun σ h hR => ?_, fun τ h hd => ?_⟩
  · obtain ⟨σ5, h5, R5, o5, e5⟩ := cQ σ h hR
    obtain ⟨σ6, e6, h6, o6⟩ := cx6 σ5 h5
    obtain ⟨σ7, e7, h7, o7⟩ := cs7 σ6 h6
    have R7 := (R5.oc o6).oc o7
    obtain ⟨σ8, e8, R8, o8⟩ := addCut6 (a := t) (b := l) (c := v) (d := d) R7 hD h8
    have o17 := (o5.tr o6).tr o7
    refine ⟨σ8, ((e5.trans (e6 _)).trans (e7 _)).trans ?_, h7.wd o8, R8, ?_⟩
    · rw [e8, cl_pos]
    · exact ⟨fun s' j' hs hw => by rw [o8 s' j' hw]; exact o17.1 s' j' hs, by rw [o8 4 0 (fun z => (isW_4 z.1).1 rfl)]; exact o17.2⟩
  · obtain ⟨τ5, h5, d5, o5, e5⟩ := mQ τ h hd
    obtain ⟨τ6, e6, h6, o6⟩ := mx6 τ5 h5
    obtain ⟨t7, x, τ7, e7, h7, o7⟩ := ms7 τ6 h6
    have o17 := (o5.tr o6).tr o7
    have d7 : τ7 28 0 = D := by rw [o17.1 28 0 (by omega)]; exact hd
    refine ⟨srow τ7 28 0 (addW D t l v d), ?_, h7.dr _, srow_at _ _ _ _, fun s' j' hs hw => by rw [srow_ne hw]; exact o17.1 s' j' hs, fun k hk => by rw [srow_ne (by omega)]; exact o17.2 k hk⟩
    have eN1 : wr (((16 + 4 * N : Nat) : Int) + 1) = ((17 + 4 * N : Nat) : Int) := by rw [wr_of (by omega) (by omega)]; omega
    have eN2 : wr (((16 + 4 * N : Nat) : Int) + 2) = ((18 + 4 * N : Nat) : Int) := by rw [wr_of (by omega) (by omega)]; omega
    have eN3 : wr (((16 + 4 * N : Nat) : Int) + 3) = ((19 + 4 * N : Nat) : Int) := by rw [wr_of (by omega) (by omega)]; omega
    have wN : wr ((N : Int) + 1) = (N : Int) + 1 := wr_of (by omega) (by omega)
    have hadd : addW D t l v d = up1 (up1 (up1 (up1 (up1 D (16 + 4 * N) t) (17 + 4 * N) l) (18 + 4 * N) v) (19 + 4 * N) d) 3 ((N : Int) + 1) := by
      unfold addW
      rw [hN, Int.toNat_natCast]
    rw [e5, e6, cl_pos, if_pos t7]
    unfold jX7_readsCut_175
    rw [e7, cl_pos, if_neg (well_1 h7.1.2.2.2), eN1, eN2, eN3, gd_pos (by omega)]
    simp only [sq]
    rw [gd_pos (by omega), gd_pos (by omega), gd_pos (by omega)]
    simp only [Int.toNat_natCast]
    rw [hup_row τ7, hup_srow, hup_srow, hup_srow, srow_at, d7]
    have e3 : up1 (up1 (up1 (up1 D (16 + 4 * N) t) (17 + 4 * N) l) (18 + 4 * N) v) (19 + 4 * N) d 3 = (N : Int) := by
      rw [up1_ne (by omega), up1_ne (by omega), up1_ne (by omega), up1_ne (by omega), hN]
    rw [e3, wN, hup_srow, ← hadd]
