/-! the world at the head of the loop -/
def σI : Hp := fun s _ k => match s with
  | 22 => if k < 8 then -1000000 else 0
  | _ => 0
theorem RgS_σI : RgS σI := by
  intro s j k
  unfold σI
  split
  · split <;> exact Rg_c rfl
  · exact Rg_c rfl
def adW (g1 : Nat → Nat) (g2 : Nat → Nat → Nat) (g3 : Nat → Nat → Nat → Nat) (q6 q7 : Nat) (a7 : Nat → Nat) : Nat → Nat → Nat
  | 0, _ => g1 7
  | 1, _ => g1 5
  | 2, _ => g1 6
  | 3, j => g2 6 j
  | 4, _ => g1 1
  | 5, j => if j = 0 then g1 2 else if j = 1 then g1 3 else if j < 4 then g2 7 (j - 2) else g2 3 (j - 4)
  | 6, _ => q6
  | 7, _ => q7
  | 8, _ => g2 5 0
  | 9, _ => g1 8
  | 10, _ => g2 4 0
  | 11, j => g3 1 j 0
  | 12, _ => g2 0 0
  | 13, j => if j = 0 then g2 1 0 else if j = 1 then g2 2 0 else if j < 4 then g3 2 (j - 2) 0 else g3 0 (j - 4) 0
  | 14, j => if j = 0 then g2 1 1 else if j = 1 then g2 2 1 else if j < 4 then g3 2 (j - 2) 1 else g3 0 (j - 4) 1
  | 15, j => if j = 0 then g2 1 2 else if j = 1 then g2 2 2 else if j < 4 then g3 2 (j - 2) 2 else g3 0 (j - 4) 2
  | 16, j => if j = 0 then g2 1 3 else if j = 1 then g2 2 3 else if j < 4 then g3 2 (j - 2) 3 else g3 0 (j - 4) 3
  | 17, j => if j = 0 then g2 1 4 else if j = 1 then g2 2 4 else if j < 4 then g3 2 (j - 2) 4 else g3 0 (j - 4) 4
  | 18, j => if j = 0 then g2 1 5 else if j = 1 then g2 2 5 else if j < 4 then g3 2 (j - 2) 5 else g3 0 (j - 4) 5
  | 19, j => if j = 0 then g2 1 6 else if j = 1 then g2 2 6 else if j < 4 then g3 2 (j - 2) 6 else g3 0 (j - 4) 6
  | 20, _ => g1 0
  | 21, _ => g1 4
  | 22, _ => a7 0
  | 23, _ => a7 1
  | 24, _ => a7 2
  | 25, _ => a7 3
  | 26, _ => a7 4
  | 27, _ => a7 5
  | 28, _ => a7 6
  | 29, _ => a7 7
  | 30, _ => a7 8
  | 31, _ => a7 9
  | 32, _ => a7 10
  | 33, _ => a7 11
  | _, _ => 0
def labW : List (Nat × Nat) := [(6, 0), (20, 0), (4, 0), (12, 0), (5, 0), (13, 0), (14, 0), (15, 0), (16, 0), (17, 0), (18, 0), (19, 0), (5, 1), (13, 1), (14, 1), (15, 1), (16, 1), (17, 1), (18, 1), (19, 1), (21, 0), (1, 0), (9, 0), (5, 4), (13, 4), (14, 4), (15, 4), (16, 4), (17, 4), (18, 4), (19, 4), (5, 5), (13, 5), (14, 5), (15, 5), (16, 5), (17, 5), (18, 5), (19, 5), (5, 6), (13, 6), (14, 6), (15, 6), (16, 6), (17, 6), (18, 6), (19, 6), (5, 7), (13, 7), (14, 7), (15, 7), (16, 7), (17, 7), (18, 7), (19, 7), (5, 8), (13, 8), (14, 8), (15, 8), (16, 8), (17, 8), (18, 8), (19, 8), (5, 9), (13, 9), (14, 9), (15, 9), (16, 9), (17, 9), (18, 9), (19, 9), (5, 10), (13, 10), (14, 10), (15, 10), (16, 10), (17, 10), (18, 10), (19, 10), (5, 11), (13, 11), (14, 11), (15, 11), (16, 11), (17, 11), (18, 11), (19, 11), (5, 12), (13, 12), (14, 12), (15, 12), (16, 12), (17, 12), (18, 12), (19, 12), (5, 13), (13, 13), (14, 13), (15, 13), (16, 13), (17, 13), (18, 13), (19, 13), (5, 14), (13, 14), (14, 14), (15, 14), (16, 14), (17, 14), (18, 14), (19, 14), (5, 15), (13, 15), (14, 15), (15, 15), (16, 15), (17, 15), (18, 15), (19, 15), (5, 16), (13, 16), (14, 16), (15, 16), (16, 16), (17, 16), (18, 16), (19, 16), (5, 17), (13, 17), (14, 17), (15, 17), (16, 17), (17, 17), (18, 17), (19, 17), (5, 18), (13, 18), (14, 18), (15, 18), (16, 18), (17, 18), (18, 18), (19, 18), (5, 19), (13, 19), (14, 19), (15, 19), (16, 19), (17, 19), (18, 19), (19, 19), (5, 20), (13, 20), (14, 20), (15, 20), (16, 20), (17, 20), (18, 20), (19, 20), (5, 21), (13, 21), (14, 21), (15, 21), (16, 21), (17, 21), (18, 21), (19, 21), (5, 22), (13, 22), (14, 22), (15, 22), (16, 22), (17, 22), (18, 22), (19, 22), (5, 23), (13, 23), (14, 23), (15, 23), (16, 23), (17, 23), (18, 23), (19, 23), (5, 24), (13, 24), (14, 24), (15, 24), (16, 24), (17, 24), (18, 24), (19, 24), (5, 25), (13, 25), (14, 25), (15, 25), (16, 25), (17, 25), (18, 25), (19, 25), (5, 26), (13, 26), (14, 26), (15, 26), (16, 26), (17, 26), (18, 26), (19, 26), (5, 27), (13, 27), (14, 27), (15, 27), (16, 27), (17, 27), (18, 27), (19, 27), (2, 0), (10, 0), (0, 0), (8, 0), (3, 0), (11, 0), (3, 1), (11, 1), (3, 2), (11, 2), (3, 3), (11, 3), (3, 4), (11, 4), (3, 5), (11, 5), (3, 6), (11, 6), (3, 7), (11, 7), (5, 2), (13, 2), (14, 2), (15, 2), (16, 2), (17, 2), (18, 2), (19, 2), (5, 3), (13, 3), (14, 3), (15, 3), (16, 3), (17, 3), (18, 3), (19, 3), (7, 0), (22, 0), (23, 0), (24, 0), (25, 0), (26, 0), (27, 0), (28, 0), (29, 0), (30, 0), (31, 0), (32, 0), (33, 0)]
theorem labW_nd : labW.Nodup := by decide +kernel
theorem labW_all : ∀ x ∈ dom, x ∈ labW := by decide +kernel
def entW (G : GT) (g2 : Nat → Nat → Nat) : Nat → Nat → va_E
  | 9, _ => .inl (G.2.2.2.2.2.1, 24, .inr (.inr (.inr (.inr (refsF 24 (g2 3))))))
  | 20, _ => .inl (G.2.2.2.2.1, 8, .inr (.inr (.inr (.inr (refsF 8 (g2 6))))))
  | 21, _ => .inl (G.2.2.2.2.2.1, 2, .inr (.inr (.inr (.inr (refsF 2 (g2 7))))))
  | 22, _ => .inl (G.2.2.1, 8, .inl laneF)
  | s, j => ent G σI s j
set_option maxRecDepth 100000 in
set_option maxHeartbeats 4000000 in
theorem wW_eq (D : va_G) (cI cZ cR cW : ClassId) (t : Nat) (g1 : Nat → Nat) (g2 : Nat → Nat → Nat) (g3 : Nat → Nat → Nat → Nat) (q6 q7 : Nat) (a7 : Nat → Nat) : wd6 cI cR cW q6 g1 g2 g3 ++ wd7 cI cZ q7 a7 = labW.map (fun x => (adW g1 g2 g3 q6 q7 a7 x.1 x.2, entW (D, adW g1 g2 g3 q6 q7 a7, cI, cZ, cR, cW, t) g2 x.1 x.2)) := rfl
theorem arrV_cg {c : ClassId} {n : Nat} {f g : Nat → Value} (h : ∀ k, k < n → f k = g k) : arrV c n f = arrV c n g := by
  unfold arrV
  congr 2
  funext j
  exact h j.val j.isLt
theorem entW_at {D : va_G} {cl : List vw_C} {cI cZ cR cW : ClassId} {t : Nat} {g1 : Nat → Nat} {g2 : Nat → Nat → Nat} {g3 : Nat → Nat → Nat → Nat} {q6 q7 : Nat} {a7 : Nat → Nat} {s j : Nat} {H : Heap} (h : va_at D cl (adW g1 g2 g3 q6 q7 a7 s j, entW (D, adW g1 g2 g3 q6 q7 a7, cI, cZ, cR, cW, t) g2 s j) H) : va_at D cl (adW g1 g2 g3 q6 q7 a7 s j, ent (D, adW g1 g2 g3 q6 q7 a7, cI, cZ, cR, cW, t) σI s j) H := by
  unfold entW at h
  split at h
  · have e : vp_cell cW (24, .inr (.inr (.inr (.inr (refsF 24 (g2 3)))))) = vp_cell cW (24, .inr (.inr (.inr (.inr (fun i => some (adW g1 g2 g3 q6 q7 a7 5 (4 + i))))))) := by
      rw [vp_cell_q, vp_cell_q]
      refine arrV_cg (fun k hk => ?_)
      show va_rf (refsF 24 (g2 3) k) = va_rf (some (if 4 + k = 0 then g1 2 else if 4 + k = 1 then g1 3 else if 4 + k < 4 then g2 7 (4 + k - 2) else g2 3 (4 + k - 4)))
      unfold refsF
      rw [if_pos hk, if_neg (by omega), if_neg (by omega), if_neg (by omega), show 4 + k - 4 = k by omega]
    have h1 : H[adW g1 g2 g3 q6 q7 a7 9 j]? = some (vp_cell cW (24, .inr (.inr (.inr (.inr (refsF 24 (g2 3))))))) := h
    exact h1.trans (congrArg some e)
  · have e : vp_cell cR (8, .inr (.inr (.inr (.inr (refsF 8 (g2 6)))))) = vp_cell cR (8, .inr (.inr (.inr (.inr (fun i => some (adW g1 g2 g3 q6 q7 a7 3 i)))))) := by
      rw [vp_cell_q, vp_cell_q]
      refine arrV_cg (fun k hk => ?_)
      show va_rf (refsF 8 (g2 6) k) = va_rf (some (g2 6 k))
      unfold refsF
      rw [if_pos hk]
    have h1 : H[adW g1 g2 g3 q6 q7 a7 20 j]? = some (vp_cell cR (8, .inr (.inr (.inr (.inr (refsF 8 (g2 6))))))) := h
    exact h1.trans (congrArg some e)
  · have e : vp_cell cW (2, .inr (.inr (.inr (.inr (refsF 2 (g2 7)))))) = vp_cell cW (2, .inr (.inr (.inr (.inr (fun i => some (adW g1 g2 g3 q6 q7 a7 5 (2 + i))))))) := by
      rw [vp_cell_q, vp_cell_q]
      refine arrV_cg (fun k hk => ?_)
      show va_rf (refsF 2 (g2 7) k) = va_rf (some (if 2 + k = 0 then g1 2 else if 2 + k = 1 then g1 3 else if 2 + k < 4 then g2 7 (2 + k - 2) else g2 3 (2 + k - 4)))
      unfold refsF
      rw [if_pos hk, if_neg (by omega), if_neg (by omega), if_pos (by omega), show 2 + k - 2 = k by omega]
    have h1 : H[adW g1 g2 g3 q6 q7 a7 21 j]? = some (vp_cell cW (2, .inr (.inr (.inr (.inr (refsF 2 (g2 7))))))) := h
    exact h1.trans (congrArg some e)
  · have e : vp_cell cI (8, .inl laneF) = vp_cell cI (8, .inl (fun k => Int32.ofInt (σI 22 j k))) := by
      rw [vp_cell_i, vp_cell_i]
      refine arrV_cg (fun k hk => ?_)
      show Value.int (laneF k) = Value.int (Int32.ofInt (if k < 8 then -1000000 else 0))
      unfold laneF
      rw [if_pos hk, if_pos hk]
      exact congrArg Value.int (by decide)
    have h1 : H[adW g1 g2 g3 q6 q7 a7 22 j]? = some (vp_cell cI (8, .inl laneF)) := h
    exact h1.trans (congrArg some e)
  · exact h
theorem wW_P {D : va_G} {cl : List vw_C} {cI cZ cR cW : ClassId} {t : Nat} {g1 : Nat → Nat} {g2 : Nat → Nat → Nat} {g3 : Nat → Nat → Nat → Nat} {q6 q7 : Nat} {a7 : Nat → Nat} {H : Heap} (h : va_P D cl (wd6 cI cR cW q6 g1 g2 g3 ++ wd7 cI cZ q7 a7) H) : va_P D cl (wld (D, adW g1 g2 g3 q6 q7 a7, cI, cZ, cR, cW, t) σI) H := by
  rw [wW_eq D cI cZ cR cW t] at h
  intro k q hk
  obtain ⟨s, j, h1, h2, rfl⟩ := wld_of hk
  obtain ⟨i, hi⟩ := List.getElem?_of_mem (labW_all _ (dom_in h1))
  exact entW_at (t := t) (h i _ (by rw [List.getElem?_map, hi]; rfl))
theorem wW_I {D : va_G} {A : Nat → Prop} {cI cZ cR cW : ClassId} {t : Nat} {g1 : Nat → Nat} {g2 : Nat → Nat → Nat} {g3 : Nat → Nat → Nat → Nat} {q6 q7 : Nat} {a7 : Nat → Nat} (h : va_D A (wd6 cI cR cW q6 g1 g2 g3 ++ wd7 cI cZ q7 a7)) : GI (D, adW g1 g2 g3 q6 q7 a7, cI, cZ, cR, cW, t) ∧ ∀ q, AA (D, adW g1 g2 g3 q6 q7 a7, cI, cZ, cR, cW, t) q → A q := by
  rw [wW_eq D cI cZ cR cW t] at h
  have key : ∀ s j, InD s j → ∃ i : Nat, labW[i]? = some (s, j) := fun s j hI => List.getElem?_of_mem (labW_all _ (dom_in hI))
  refine ⟨fun s j s' j' h1 h2 he => ?_, fun q hq => ?_⟩
  · obtain ⟨i, hi⟩ := key s j h1
    obtain ⟨i', hi'⟩ := key s' j' h2
    have e := h.1 i i' _ _ (by rw [List.getElem?_map, hi]; rfl) (by rw [List.getElem?_map, hi']; rfl) he
    subst e
    rw [hi] at hi'
    cases hi'
    exact ⟨rfl, rfl⟩
  · obtain ⟨s, j, h1, rfl⟩ := hq
    obtain ⟨i, hi⟩ := key s j h1
    exact h.2 i _ (by rw [List.getElem?_map, hi]; rfl)
