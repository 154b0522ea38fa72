/-! what a change notes down -/
theorem keep_sp {σ : Hp} {n x : Nat} {w : Wv} {Y : Int} (h2 : σ 1 0 2 = (n : Int)) (hn : n ≤ 24) (h1 : σ 1 0 1 = (x : Int)) (hx : x < 24) (hR : RelW σ 0 w) (hw : WF Y w) :
    ∃ σ1, fX1_keep σ 0 = some (0, σ1) ∧ (∀ s j, ¬ (isW s ∧ j = 4 + x) → s ≠ 1 → σ1 s j = σ s j) ∧ RelW σ1 (4 + x) w ∧ σ1 1 0 2 = ((if n = 24 then 24 else n + 1 : Nat) : Int) ∧ σ1 1 0 1 = (((x + 1) % 24 : Nat) : Int) := by
  obtain ⟨σ1, e1, o1, R1⟩ := become_rel (j0 := 4 + x) hR hw
  have n1 : ¬ isW 1 := fun z => by rcases z with q | q <;> omega
  have w2 : wr ((x : Int) + 1) = ((x + 1 : Nat) : Int) := by rw [wr_of (by omega) (by omega)]; omega
  have w3 : qrem ((x + 1 : Nat) : Int) 24 = (((x + 1) % 24 : Nat) : Int) := by rw [qrem_of (by omega) (by omega) (by omega)]; omega
  have w4 : qmin (wr ((n : Int) + 1)) 24 = ((if n = 24 then 24 else n + 1 : Nat) : Int) := by
    rw [wr_of (by omega) (by omega)]
    unfold qmin
    split <;> split <;> omega
  have q1 : σ1 1 0 1 = (x : Int) := by rw [o1 1 0 (fun z => n1 z.1), h1]
  have q2 : ∀ v, hup σ1 1 0 1 v 1 0 2 = (n : Int) := fun v => by rw [hup_k (by omega), o1 1 0 (fun z => n1 z.1), h2]
  refine ⟨hup (hup σ1 1 0 1 (((x + 1) % 24 : Nat) : Int)) 1 0 2 ((if n = 24 then 24 else n + 1 : Nat) : Int), ?_, fun s j hs hs1 => ?_, ?_, ?_, ?_⟩
  · unfold fX1_keep
    rw [h1, gd_pos (by omega), Int.toNat_natCast, e1, cl_pos]
    simp only [sq]
    rw [q1, w2, w3, q2, w4]
  · rw [hup_s hs1, hup_s hs1, o1 s j hs]
  · exact R1.cg (fun s hs => by
      have : s ≠ 1 := by rcases hs with q | q <;> omega
      rw [hup_s this, hup_s this])
  · rw [hup_at]
  · rw [hup_k (by omega), hup_at]
def shN (P : Nat → Int) (v : Nat) : Nat → Int := fun k => if k < v then P (k + 48) else P k
theorem notes_l (σ : Hp) (P : Nat → Int) : ∀ (d v n : Nat), v + d = 1104 → d + 1 ≤ n → lX7_notes_11 n (srow σ 29 0 (shN P v)) v = jX7_notes_49 (hup (srow σ 29 0 (shN P 1104)) 7 0 16 (wr (σ 7 0 16 - 1))) := by
  intro d
  induction d with
  | zero =>
    intro v n hv hn
    obtain ⟨n, rfl⟩ : ∃ m, n = m + 1 := ⟨n - 1, by omega⟩
    obtain rfl : v = 1104 := by omega
    rw [lX7_notes_11_e0, if_pos (by omega), srow_ne (by omega)]
    rfl
  | succ d ih =>
    intro v n hv hn
    obtain ⟨n, rfl⟩ : ∃ m, n = m + 1 := ⟨n - 1, by omega⟩
    have w1 : wr ((v : Int) + 48) = ((v + 48 : Nat) : Int) := by rw [wr_of (by omega) (by omega)]; omega
    have w2 : wr ((v : Int) + 1) = ((v + 1 : Nat) : Int) := by rw [wr_of (by omega) (by omega)]; omega
    have e : up1 (shN P v) v (shN P v (v + 48)) = shN P (v + 1) := by
      funext k
      unfold up1 shN
      by_cases q : k = v
      · rw [if_pos q, if_neg (by omega), if_pos (by omega), q]
      · rw [if_neg q]
        by_cases q2 : k < v
        · rw [if_pos q2, if_pos (by omega)]
        · rw [if_neg q2, if_neg (by omega)]
    rw [lX7_notes_11_e0, if_neg (by omega), w1, w2, gd_pos (by omega), gd_pos (by omega), Int.toNat_natCast, Int.toNat_natCast]
    simp only [sq]
    rw [srow_at, hup_srow, e, ih (v + 1) n (by omega) (by omega)]
def pastN (n : Nat) (P w : Nat → Int) : Nat → Int := if n = 24 then filG (shN P 1104) 1104 1152 (fun k => w (0 + (k - 1104))) else filG P (48 * n) (48 * n + 48) (fun k => w (0 + (k - 48 * n)))
theorem notes49_sp {σ : Hp} {n : Nat} (hn : n < 24) (h : σ 7 0 16 = (n : Int)) : jX7_notes_49 σ = some (0, hup (srow σ 29 0 (filG (σ 29 0) (48 * n) (48 * n + 48) (fun k => σ 27 0 (0 + (k - 48 * n))))) 7 0 16 ((n + 1 : Nat) : Int)) := by
  unfold jX7_notes_49
  have e48 : wr (48 * (n : Int)) = ((48 * n : Nat) : Int) := by rw [wr_of (by omega) (by omega)]; omega
  have w2 : wr ((n : Int) + 1) = ((n + 1 : Nat) : Int) := by rw [wr_of (by omega) (by omega)]; omega
  have ec := copies_sp σ (s1 := 27) (j1 := 0) (s2 := 29) (j2 := 0) (A := 0) (B := 48 * n) (by show 0 + 48 ≤ 48; omega) (by show 48 * n + 48 ≤ 1152; omega) (by omega) (by omega) (by omega)
  rw [show ((0 : Nat) : Int) = 0 from rfl] at ec
  rw [h, e48, ec, cl_pos]
  simp only [sq]
  rw [srow_ne (by omega), h, w2]
theorem hsh (σ : Hp) (u v : Int) (f : Nat → Int) : hup (srow (hup σ 7 0 16 u) 29 0 f) 7 0 16 v = hup (srow σ 29 0 f) 7 0 16 v := by
  funext a b c
  simp only [hup, srow]
  by_cases h1 : a = 7 ∧ b = 0 ∧ c = 16
  · rw [if_pos h1, if_pos h1]
  · rw [if_neg h1, if_neg h1]
    by_cases h2 : a = 29 ∧ b = 0
    · rw [if_pos h2, if_pos h2]
    · rw [if_neg h2, if_neg h2]
      exact if_neg h1
theorem notes_sp {σ : Hp} {n : Nat} (hn : n ≤ 24) (h : σ 7 0 16 = (n : Int)) : fX7_notes σ = some (0, hup (srow σ 29 0 (pastN n (σ 29 0) (σ 27 0))) 7 0 16 ((if n = 24 then 24 else n + 1 : Nat) : Int)) := by
  unfold fX7_notes pastN
  by_cases q : n = 24
  · have e0 : srow σ 29 0 (shN (σ 29 0) 0) = σ := by
      rw [show shN (σ 29 0) 0 = σ 29 0 from funext fun k => if_neg (by omega), srow_self]
    have hl := notes_l σ (σ 29 0) 1104 0 FU (by omega) (by rw [FU_eq]; omega)
    rw [e0, show ((0 : Nat) : Int) = 0 from rfl, h, show wr ((n : Int) - 1) = ((23 : Nat) : Int) by rw [wr_of (by omega) (by omega)]; omega] at hl
    rw [if_pos (by omega), if_pos q, if_pos q, hl, notes49_sp (n := 23) (by omega) (hup_at _ _ _ _ _), hup_s (by omega), hup_s (by omega), srow_at, srow_ne (by omega), hsh, srow_srow]
  · rw [if_neg (by omega), if_neg q, if_neg q, notes49_sp (by omega) h]
theorem SP.noted {σ υ : Hp} {n x : Nat} (h : SP σ) (hw : SW σ) (hn : σ 7 0 16 = (n : Int)) (hx : σ 1 0 1 = (x : Int)) (ho : ∀ s j, isW s → 4 ≤ j → j ≠ 4 + x → υ s j = σ s j) (hR : RelW υ (4 + x) (σ 27 0))
    (h2 : υ 1 0 2 = ((if n = 24 then 24 else n + 1 : Nat) : Int)) (h1 : υ 1 0 1 = (((x + 1) % 24 : Nat) : Int)) (h29 : υ 29 0 = pastN n (σ 29 0) (σ 27 0)) (h7 : υ 7 0 16 = ((if n = 24 then 24 else n + 1 : Nat) : Int)) : SP υ := by
  obtain ⟨s1, s2, s3, s4⟩ := h
  obtain ⟨hRW, hwW⟩ := hw
  refine ⟨by rw [h2, h7], by rw [h7]; split <;> omega, by rw [h1]; omega, fun i hi => ?_⟩
  rw [h7] at hi
  rw [h1, h7, h29, Int.toNat_natCast, Int.toNat_natCast]
  unfold pastN
  rw [hn, hx, Int.toNat_natCast, Int.toNat_natCast] at s4
  by_cases q : n = 24
  · simp only [if_pos q] at hi ⊢
    subst q
    by_cases e : i = 23
    · subst e
      rw [show 4 + ((x + 1) % 24 + 24 - 24 + 23) % 24 = 4 + x by omega]
      have ea : agr (σ 27 0) (fun k => filG (shN (σ 29 0) 1104) 1104 1152 (fun k => σ 27 0 (0 + (k - 1104))) (48 * 23 + k)) := by
        intro k hk
        unfold filG
        dsimp only
        rw [if_pos (by omega)]
        exact congrArg (σ 27 0) (by omega)
      exact ⟨hR.agr hwW ea, hwW.agr ea⟩
    · obtain ⟨Ri, Wi⟩ := s4 (i + 1) (by omega)
      rw [show (x + 24 - 24 + (i + 1)) % 24 = ((x + 1) % 24 + 24 - 24 + i) % 24 by omega] at Ri
      have ea : agr (fun k => σ 29 0 (48 * (i + 1) + k)) (fun k => filG (shN (σ 29 0) 1104) 1104 1152 (fun k => σ 27 0 (0 + (k - 1104))) (48 * i + k)) := by
        intro k hk
        unfold filG shN
        dsimp only
        rw [if_neg (by omega), if_pos (by omega)]
        exact congrArg (σ 29 0) (by omega)
      exact ⟨(Ri.cg (fun s hs => ho s _ hs (by omega) (by omega))).agr Wi ea, Wi.agr ea⟩
  · simp only [if_neg q] at hi ⊢
    by_cases e : i = n
    · subst e
      rw [show 4 + ((x + 1) % 24 + 24 - (i + 1) + i) % 24 = 4 + x by omega]
      have ea : agr (σ 27 0) (fun k => filG (σ 29 0) (48 * i) (48 * i + 48) (fun k => σ 27 0 (0 + (k - 48 * i))) (48 * i + k)) := by
        intro k hk
        unfold filG
        dsimp only
        rw [if_pos (by omega)]
        exact congrArg (σ 27 0) (by omega)
      exact ⟨hR.agr hwW ea, hwW.agr ea⟩
    · obtain ⟨Ri, Wi⟩ := s4 i (by omega)
      rw [show (x + 24 - n + i) % 24 = ((x + 1) % 24 + 24 - (n + 1) + i) % 24 by omega] at Ri
      have ea : agr (fun k => σ 29 0 (48 * i + k)) (fun k => filG (σ 29 0) (48 * n) (48 * n + 48) (fun k => σ 27 0 (0 + (k - 48 * n))) (48 * i + k)) := by
        intro k hk
        unfold filG
        dsimp only
        rw [if_neg (by omega)]
      exact ⟨(Ri.cg (fun s hs => ho s _ hs (by omega) (by omega))).agr Wi ea, Wi.agr ea⟩
