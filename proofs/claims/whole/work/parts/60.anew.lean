/-! anew -/
theorem WF.depth {Y : Int} {w : Wv} {c : Nat} {v : Int} (h : WF Y w) (hv : 0 ≤ v ∧ v ≤ 20) (hc : c < 8) : WF Y (up1 w (19 + 4 * c) v) := by
  obtain ⟨h0, h1, h2, h3, h4, h5⟩ := h
  unfold WF
  rw [up1_ne (x := 0) (by omega), up1_ne (x := 1) (by omega), up1_ne (x := 2) (by omega), up1_ne (x := 3) (by omega)]
  refine ⟨h0, h1, h2, h3, fun t ht => ?_, fun d hd => ?_⟩
  · rw [up1_ne (x := 4 + 3 * t) (by omega), up1_ne (x := 5 + 3 * t) (by omega), up1_ne (x := 6 + 3 * t) (by omega)]
    exact h4 t ht
  · rw [up1_ne (x := 16 + 4 * d) (by omega), up1_ne (x := 17 + 4 * d) (by omega), up1_ne (x := 18 + 4 * d) (by omega)]
    obtain ⟨q1, q2, q3, q4⟩ := h5 d hd
    refine ⟨q1, q2, q3, ?_⟩
    unfold up1
    split
    · exact hv
    · exact q4
theorem ok_anew {σ : Hp} (h : Sim σ) {a b : Int} : Ok (fun τ => fX6_anew τ a b) (fun τ => fX7_anew τ a b) σ := by
  obtain ⟨⟨hR, hw⟩, ⟨s1, s2, s3, s4⟩, hSI⟩ := h.2.2.1
  have h3 := hw.2.2.2.1
  by_cases ha : 0 ≤ a ∧ a < σ 27 0 3
  case neg =>
    refine Ok.same (r := -1000001) h ?_ ?_
    · simp only [fX6_anew]; rw [if_pos ((cut6 hR).mpr ha)]
    · simp only [fX7_anew]; rw [if_pos ((cut7_0 hw).mpr ha)]
  by_cases hb : 1 ≤ b ∧ b ≤ 20
  case neg =>
    refine Ok.same (r := -1000001) h ?_ ?_
    · simp only [fX6_anew]; rw [if_neg (fun z => (cut6 hR).mp z ha), if_pos (depth6_0.mpr hb)]
    · simp only [fX7_anew]; rw [if_neg (fun z => (cut7_0 hw).mp z ha), if_pos (in_0.mpr hb)]
  obtain ⟨c, rfl⟩ : ∃ k : Nat, a = k := ⟨a.toNat, by omega⟩
  have p4 := (hR.2.2.2.2.2.2 c ha.2).2.2.2
  have e3 : wr (wr (16 + wr (4 * (c : Int))) + 3) = ((19 + 4 * c : Nat) : Int) := by
    rw [wr16c (by omega), wr_of (by omega) (by omega)]; omega
  by_cases hz : σ 27 0 (19 + 4 * c) = 0
  · refine Ok.same (r := -1000002) h ?_ ?_
    · simp only [fX6_anew]; rw [if_neg (fun z => (cut6 hR).mp z ha), if_neg (fun z => depth6_0.mp z hb), gd_pos (by omega), Int.toNat_natCast, if_pos (by omega)]
    · simp only [fX7_anew]; rw [if_neg (fun z => (cut7_0 hw).mp z ha), if_neg (in_1 hb), e3, gd_pos (by omega), Int.toNat_natCast, if_pos hz]
  obtain ⟨n, hn⟩ : ∃ n : Nat, σ 7 0 16 = n := ⟨(σ 7 0 16).toNat, by omega⟩
  obtain ⟨x, hx⟩ : ∃ x : Nat, σ 1 0 1 = x := ⟨(σ 1 0 1).toNat, by omega⟩
  obtain ⟨σ1, ek, o1, R1, c2, c1⟩ := keep_sp (σ := σ) (n := n) (x := x) (by omega) (by omega) hx (by omega) hR hw
  have nW : ∀ s, (s = 1 ∨ s = 7 ∨ s = 27 ∨ s = 29) → ¬ isW s := fun s hs z => by rcases z with q | q <;> omega
  have R0 : RelW σ1 0 (σ 27 0) := hR.cg (fun s hs => o1 s 0 (fun z => by omega) (by rcases hs with q | q <;> omega))
  obtain ⟨σ2, hσ2⟩ : ∃ σ2, σ2 = hup σ1 19 0 c b := ⟨_, rfl⟩
  have R2 : RelW σ2 0 (up1 (σ 27 0) (19 + 4 * c) b) := by rw [hσ2]; exact RelW_depth hw R0
  have b27 : σ2 27 0 = σ 27 0 := by rw [hσ2, hup_s (by omega), o1 27 0 (fun z => nW 27 (by omega) z.1) (by omega)]
  have b29 : σ2 29 0 = σ 29 0 := by rw [hσ2, hup_s (by omega), o1 29 0 (fun z => nW 29 (by omega) z.1) (by omega)]
  have b7 : σ2 7 0 16 = (n : Int) := by rw [hσ2, hup_s (by omega), o1 7 0 (fun z => nW 7 (by omega) z.1) (by omega), hn]
  have en := notes_sp (σ := σ2) (n := n) (by omega) b7
  rw [b27, b29] at en
  obtain ⟨τ, hτ⟩ : ∃ τ, τ = hup (srow σ2 29 0 (pastN n (σ 29 0) (σ 27 0))) 7 0 16 ((if n = 24 then 24 else n + 1 : Nat) : Int) := ⟨_, rfl⟩
  rw [← hτ] at en
  have d27 : τ 27 0 = σ 27 0 := by rw [hτ, hup_s (by omega), srow_ne (by omega), b27]
  refine ⟨σ 27 0 (19 + 4 * c), σ2, srow τ 27 0 (up1 (σ 27 0) (19 + 4 * c) b), ?_, ?_, ?_⟩
  · simp only [fX6_anew]
    rw [if_neg (fun z => (cut6 hR).mp z ha), if_neg (fun z => depth6_0.mp z hb), gd_pos (by omega), Int.toNat_natCast, if_neg (by omega), ek, cl_pos, gd_pos (by omega)]
    simp only [sq]
    rw [p4, hσ2]
  · simp only [fX7_anew]
    rw [if_neg (fun z => (cut7_0 (σ := σ2) (by rw [b27]; exact hw)).mp z (by rw [b27]; exact ha)), if_neg (in_1 hb), e3, gd_pos (by omega), Int.toNat_natCast, b27, if_neg hz, en, cl_pos, gd_pos (by omega)]
    simp only [sq]
    rw [hup_row τ, d27]
  · exact h.change hn hx o1 R1 c2 c1 (fun s j hs => by
      rw [hσ2]
      by_cases q : s = 19
      · subst q; exact hup_j (fun z => hs ⟨Or.inr (by omega), z⟩)
      · rw [hup_s q]) R2 (hw.depth (by omega) (by omega)) (by rw [hτ])
