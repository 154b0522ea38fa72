/-! the law's loop answers 1 -/
theorem law_step {f g : Hp → Option (Int × Hp)} {σ : Hp} {K : Hp → Option (Int × Hp)} (h : Ok f g σ) (hk : ∀ σ', Sim σ' → ∃ σ0, K σ' = some (1, σ0)) : ∃ σ0, cl (f σ) (fun r σ1 => cl (g σ1) (fun r' σ2 => if r = r' then K σ2 else some (0, σ2))) = some (1, σ0) := by
  obtain ⟨r, σ1, σ2, e1, e2, hS⟩ := h
  obtain ⟨σ0, e⟩ := hk σ2 hS
  refine ⟨σ0, ?_⟩
  rw [e1, cl_pos, e2, cl_pos, if_pos rfl]
  exact e
theorem Sim_σI : Sim σI := by
  have z : ∀ s j k, s ≠ 22 → σI s j k = 0 := fun s j k hs => by
    unfold σI
    split
    · exact absurd rfl hs
    · rfl
  have zw : ∀ k, σI 27 0 k = 0 := fun k => z 27 0 k (by omega)
  refine ⟨fun r hr => Or.inl ⟨if_pos hr, z 3 r 1 (by omega)⟩, ⟨by rw [z 4 0 1 (by omega), z 7 0 6 (by omega)], by rw [z 7 0 6 (by omega)]; omega, fun k hk => by rw [z 7 0 6 (by omega)] at hk; omega⟩, ⟨⟨?_, ?_⟩, ⟨?_, ?_, ?_, fun i hi => ?_⟩, fun k hk => Or.inl ⟨z 31 0 k (by omega), z 5 (2 + k) 7 (by omega)⟩⟩, ⟨by rw [z 0 0 1 (by omega), z 7 0 21 (by omega)], by rw [z 7 0 21 (by omega)]; omega, fun k hk => by rw [z 7 0 21 (by omega)] at hk; omega⟩, by rw [z 6 0 8 (by omega), z 7 0 7 (by omega)], by rw [z 6 0 9 (by omega), z 7 0 4 (by omega)], fun j hj => Or.inl (z 5 j 7 (by omega))⟩
  · refine ⟨by rw [z 5 0 7 (by omega), zw 0]; rfl, by rw [z 5 0 8 (by omega), zw 0], by rw [z 5 0 9 (by omega), zw 1], by rw [z 5 0 10 (by omega), zw 2], by rw [z 5 0 11 (by omega), zw 3], fun t ht => by rw [zw 2] at ht; omega, fun c hc => by rw [zw 3] at hc; omega⟩
  · exact ⟨by rw [zw 0]; omega, by rw [zw 1]; omega, by rw [zw 2]; omega, by rw [zw 3]; omega, fun t ht => by rw [zw 2] at ht; omega, fun c hc => by rw [zw 3] at hc; omega⟩
  · rw [z 1 0 2 (by omega), z 7 0 16 (by omega)]
  · rw [z 7 0 16 (by omega)]; omega
  · rw [z 1 0 1 (by omega)]; omega
  · rw [z 7 0 16 (by omega)] at hi; omega
set_option maxHeartbeats 4000000 in
set_option maxRecDepth 20000 in
theorem law_l {xs : Nat → Int} {L : Nat} (hL : L ≤ 384) (hxs : ∀ k, Rg (xs k)) : ∀ (d c n : Nat) (σ : Hp), L < c + 6 * d → d + 1 ≤ n → c ≤ L + 6 → Sim σ → ∃ σ0, lL_law n σ xs L c = some (1, σ0) := by
  intro d
  induction d with
  | zero =>
    intro c n σ hd hn hc h
    obtain ⟨n, rfl⟩ : ∃ m, n = m + 1 := ⟨n - 1, by omega⟩
    exact ⟨σ, by rw [lL_law_e0, wr_of (x := (L : Int) - 6) (by omega) (by omega), if_pos (by omega)]⟩
  | succ d ih =>
    intro c n σ hd hn hc h
    obtain ⟨n, rfl⟩ : ∃ m, n = m + 1 := ⟨n - 1, by omega⟩
    have eL : wr ((L : Int) - 6) = (L : Int) - 6 := wr_of (by omega) (by omega)
    by_cases q : (L : Int) - 6 < c
    · exact ⟨σ, by rw [lL_law_e0, eL, if_pos q]⟩
    have e6 : wr ((c : Int) + 6) = ((c + 6 : Nat) : Int) := by rw [wr_of (by omega) (by omega)]; omega
    have next : ∀ σ', Sim σ' → ∃ σ0, lL_law n σ' xs L (wr ((c : Int) + 6)) = some (1, σ0) := fun σ' h' => by
      rw [e6]
      exact ih (c + 6) n σ' (by omega) (by omega) (by omega) h'
    have w1 : wr ((c : Int) + 1) = (c : Int) + 1 := wr_of (by omega) (by omega)
    have w2 : wr ((c : Int) + 2) = (c : Int) + 2 := wr_of (by omega) (by omega)
    have w3 : wr ((c : Int) + 3) = (c : Int) + 3 := wr_of (by omega) (by omega)
    have w4 : wr ((c : Int) + 4) = (c : Int) + 4 := wr_of (by omega) (by omega)
    have w5 : wr ((c : Int) + 5) = (c : Int) + 5 := wr_of (by omega) (by omega)
    have g1 : (0 : Int) ≤ wr ((c : Int) + 1) ∧ wr ((c : Int) + 1) < (L : Int) := by rw [w1]; omega
    have g2 : (0 : Int) ≤ wr ((c : Int) + 2) ∧ wr ((c : Int) + 2) < (L : Int) := by rw [w2]; omega
    have g3 : (0 : Int) ≤ wr ((c : Int) + 3) ∧ wr ((c : Int) + 3) < (L : Int) := by rw [w3]; omega
    have g4 : (0 : Int) ≤ wr ((c : Int) + 4) ∧ wr ((c : Int) + 4) < (L : Int) := by rw [w4]; omega
    have g5 : (0 : Int) ≤ wr ((c : Int) + 5) ∧ wr ((c : Int) + 5) < (L : Int) := by rw [w5]; omega
    rw [lL_law_e0, eL, if_neg q, gd_pos (show (0 : Int) ≤ (c : Int) ∧ (c : Int) < (L : Int) by omega)]
    generalize qand (xs (c : Int).toNat) 63 = o
    by_cases h0 : o = 0
    · rw [if_pos h0]
      simp only [gd_pos g1, gd_pos g2, gd_pos g3]
      exact law_step (ok_row h) next
    rw [if_neg h0]
    by_cases h1 : o = 1
    · rw [if_pos h1]
      simp only [gd_pos g1, gd_pos g2, gd_pos g3]
      exact law_step (ok_set h (hxs _) (hxs _)) next
    rw [if_neg h1]
    by_cases h2 : o = 2
    · rw [if_pos h2]
      simp only [gd_pos g1, gd_pos g2, gd_pos g3, gd_pos g4, gd_pos g5]
      exact law_step (ok_copy h (hxs _) (hxs _) (hxs _)) next
    rw [if_neg h2]
    by_cases h3 : o = 3
    · rw [if_pos h3]
      simp only [gd_pos g1]
      exact law_step (ok_drop h) next
    rw [if_neg h3]
    by_cases h4 : o = 4
    · rw [if_pos h4]
      simp only [gd_pos g1]
      exact law_step (ok_feed h) next
    rw [if_neg h4]
    by_cases h5 : o = 5
    · rw [if_pos h5]
      exact law_step (ok_wood h) next
    rw [if_neg h5]
    by_cases h6 : o = 6
    · rw [if_pos h6]
      rw [if_pos (show fX6_fault σ = fX7_fault σ from h.2.2.2.2.1)]
      exact next σ h
    rw [if_neg h6]
    by_cases h7 : o = 7
    · rw [if_pos h7]
      simp only [gd_pos g1]
      exact law_step (ok_years h (hxs _)) next
    rw [if_neg h7]
    by_cases h8 : o = 8
    · rw [if_pos h8]
      simp only [gd_pos g1, gd_pos g2, gd_pos g3, gd_pos g4]
      exact law_step (ok_cut h) next
    rw [if_neg h8]
    by_cases h9 : o = 9
    · rw [if_pos h9]
      simp only [gd_pos g1, gd_pos g2]
      exact law_step (ok_anew h) next
    rw [if_neg h9]
    by_cases h10 : o = 10
    · rw [if_pos h10]
      simp only [gd_pos g1]
      exact law_step (ok_scrape h) next
    rw [if_neg h10]
    by_cases h11 : o = 11
    · rw [if_pos h11]
      exact law_step (ok_undo h) next
    rw [if_neg h11]
    by_cases h12 : o = 12
    · rw [if_pos h12]
      simp only [gd_pos g1, gd_pos g2]
      exact law_step (ok_tree h) next
    rw [if_neg h12]
    by_cases h13 : o = 13
    · rw [if_pos h13]
      simp only [gd_pos g1, gd_pos g2]
      exact law_step (ok_cutHas h) next
    rw [if_neg h13]
    by_cases h14 : o = 14
    · rw [if_pos h14]
      simp only [gd_pos g1, gd_pos g2]
      exact law_step (ok_apart h) next
    rw [if_neg h14]
    by_cases h15 : o = 15
    · rw [if_pos h15]
      simp only [gd_pos g1, gd_pos g2]
      exact law_step (ok_together h) next
    rw [if_neg h15]
    by_cases h16 : o = 16
    · rw [if_pos h16]
      simp only [gd_pos g1, gd_pos g2]
      exact law_step (ok_girth h) next
    rw [if_neg h16]
    by_cases h17 : o = 17
    · rw [if_pos h17]
      simp only [gd_pos g1]
      exact law_step (ok_left h) next
    rw [if_neg h17]
    by_cases h18 : o = 18
    · rw [if_pos h18]
      simp only [gd_pos g1, gd_pos g2]
      exact law_step (ok_free h) next
    rw [if_neg h18]
    by_cases h19 : o = 19
    · rw [if_pos h19]
      simp only [gd_pos g1, gd_pos g2, gd_pos g3]
      exact law_step (ok_holds h) next
    rw [if_neg h19]
    by_cases h20 : o = 20
    · rw [if_pos h20]
      simp only [gd_pos g1, gd_pos g2]
      exact law_step (ok_deep h) next
    rw [if_neg h20]
    by_cases h21 : o = 21
    · rw [if_pos h21]
      simp only [gd_pos g1, gd_pos g2]
      exact law_step (ok_meet h) next
    rw [if_neg h21]
    by_cases h22 : o = 22
    · rw [if_pos h22]
      simp only [gd_pos g1, gd_pos g2]
      exact law_step (ok_rings h) next
    rw [if_neg h22]
    by_cases h23 : o = 23
    · rw [if_pos h23]
      simp only [gd_pos g1, gd_pos g2, gd_pos g3, gd_pos g4]
      exact law_step (ok_gaps h (hxs _) (hxs _)) next
    rw [if_neg h23]
    by_cases h24 : o = 24
    · rw [if_pos h24]
      simp only [gd_pos g1, gd_pos g2, gd_pos g3, gd_pos g4, gd_pos g5]
      exact law_step (ok_which h (hxs _) (hxs _)) next
    rw [if_neg h24]
    by_cases h25 : o = 25
    · rw [if_pos h25]
      simp only [gd_pos g1, gd_pos g2, gd_pos g3, gd_pos g4]
      exact law_step (ok_storm h) next
    rw [if_neg h25]
    by_cases h26 : o = 26
    · rw [if_pos h26]
      simp only [gd_pos g1]
      exact law_step (ok_image h) next
    rw [if_neg h26]
    by_cases h27 : o = 27
    · rw [if_pos h27]
      simp only [gd_pos g1]
      exact law_step (ok_restore h) next
    rw [if_neg h27]
    by_cases h28 : o = 28
    · rw [if_pos h28]
      simp only [gd_pos g1]
      exact law_step (ok_kind h) next
    rw [if_neg h28]
    by_cases h29 : o = 29
    · rw [if_pos h29]
      simp only [gd_pos g1, gd_pos g2]
      exact law_step (ok_as h) next
    rw [if_neg h29]
    by_cases h30 : o = 30
    · rw [if_pos h30]
      simp only [gd_pos g1, gd_pos g2]
      exact law_step (ok_ask h) next
    rw [if_neg h30]
    by_cases h31 : o = 31
    · rw [if_pos h31]
      simp only [gd_pos g1]
      exact law_step (ok_trace h) next
    rw [if_neg h31]
    by_cases h32 : o = 32
    · rw [if_pos h32]
      simp only [gd_pos g1]
      exact law_step (ok_count h) next
    rw [if_neg h32]
    by_cases h33 : o = 33
    · rw [if_pos h33]
      rw [if_pos (show fX6_status σ = fX7_status σ from h.2.2.2.2.2.1)]
      exact next σ h
    rw [if_neg h33]
    exact next σ h
