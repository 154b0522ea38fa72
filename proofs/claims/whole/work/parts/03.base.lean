/-! numbers: an int of the machine as an Int; iv is its Value, Rg its range -/
def Rg (x : Int) : Prop := -2147483648 ≤ x ∧ x < 2147483648
def wr (x : Int) : Int := (Int32.ofInt x).toInt
def iv (x : Int) : Value := .int (Int32.ofInt x)
theorem Rg_ti (x : Int32) : Rg x.toInt := ⟨Int32.le_toInt x, Int32.toInt_lt x⟩
theorem Rg_wr (x : Int) : Rg (wr x) := Rg_ti _
theorem oi_ti {x : Int} (h : Rg x) : (Int32.ofInt x).toInt = x := Int32.toInt_ofInt_of_le h.1 h.2
theorem wr_of {x : Int} (h1 : -2147483648 ≤ x) (h2 : x < 2147483648) : wr x = x := oi_ti ⟨h1, h2⟩
theorem oi_wr (x : Int) : Int32.ofInt (wr x) = Int32.ofInt x := Int32.ofInt_toInt _
theorem iv_wr (x : Int) : iv (wr x) = iv x := congrArg Value.int (oi_wr x)
theorem iv_ti (x : Int32) : iv x.toInt = .int x := congrArg Value.int (Int32.ofInt_toInt x)
theorem iv_oi (x : Int32) {y : Int} (h : x.toInt = y) : Value.int x = iv y := by rw [← h, iv_ti]
theorem oi_lt {x y : Int} (hx : Rg x) (hy : Rg y) : Int32.ofInt x < Int32.ofInt y ↔ x < y := by rw [Int32.lt_iff_toInt_lt, oi_ti hx, oi_ti hy]
theorem oi_le {x y : Int} (hx : Rg x) (hy : Rg y) : Int32.ofInt x ≤ Int32.ofInt y ↔ x ≤ y := by rw [Int32.le_iff_toInt_le, oi_ti hx, oi_ti hy]
theorem oi_eq {x y : Int} (hx : Rg x) (hy : Rg y) : Int32.ofInt x = Int32.ofInt y ↔ x = y := by rw [← Int32.toInt_inj, oi_ti hx, oi_ti hy]
theorem Rg_0 : Rg 0 := ⟨by decide, by decide⟩
theorem Rg_c {n : Int} (h : (decide (-2147483648 ≤ n) && decide (n < 2147483648)) = true) : Rg n := by
  rw [Bool.and_eq_true, decide_eq_true_eq, decide_eq_true_eq] at h
  exact h
theorem oi_0 : Int32.ofInt 0 = 0 := by decide
theorem oi_nat {x : Int} (h0 : 0 ≤ x) (hx : Rg x) : (Int32.ofInt x).toNatClampNeg = x.toNat := by
  have h : (Int32.ofInt x).toInt.toNat = x.toNat := by rw [oi_ti hx]
  exact h
theorem oi_in {x : Int} {n : Nat} (hx : Rg x) (h : 0 ≤ x ∧ x < (n : Int)) : vp_in (Int32.ofInt x) n := vp_in_iff.mpr (by rw [oi_ti hx]; exact h)
/-- the operations, as the machine has them, said of Ints -/
def qdiv (x y : Int) : Int := wr (Int.tdiv x y)
def qrem (x y : Int) : Int := wr (x - Int.tdiv x y * y)
def qand (x y : Int) : Int := (Int32.ofInt x &&& Int32.ofInt y).toInt
def qor (x y : Int) : Int := (Int32.ofInt x ||| Int32.ofInt y).toInt
def qxor (x y : Int) : Int := (Int32.ofInt x ^^^ Int32.ofInt y).toInt
def qshl (x y : Int) : Int := (Int32.ofInt x <<< (Int32.ofInt y &&& 31)).toInt
def qshr (x y : Int) : Int := (Int32.ofInt x >>> (Int32.ofInt y &&& 31)).toInt
def qushr (x y : Int) : Int := ((Int32.ofInt x).toUInt32 >>> ((Int32.ofInt y).toUInt32 &&& Int32.toUInt32 31)).toInt32.toInt
def qi8 (x : Int) : Int := (Int32.ofInt x).toInt8.toInt32.toInt
def qi16 (x : Int) : Int := (Int32.ofInt x).toInt16.toInt32.toInt
def qmax (x y : Int) : Int := if x < y then y else x
def qmin (x y : Int) : Int := if y < x then y else x
def qabs (x : Int) : Int := wr (if 0 ≤ x then x else 0 - x)
theorem Rg_qdiv (x y : Int) : Rg (qdiv x y) := Rg_wr _
theorem Rg_qrem (x y : Int) : Rg (qrem x y) := Rg_wr _
theorem Rg_qand (x y : Int) : Rg (qand x y) := Rg_ti _
theorem Rg_qor (x y : Int) : Rg (qor x y) := Rg_ti _
theorem Rg_qxor (x y : Int) : Rg (qxor x y) := Rg_ti _
theorem Rg_qshl (x y : Int) : Rg (qshl x y) := Rg_ti _
theorem Rg_qshr (x y : Int) : Rg (qshr x y) := Rg_ti _
theorem Rg_qushr (x y : Int) : Rg (qushr x y) := Rg_ti _
theorem Rg_qi8 (x : Int) : Rg (qi8 x) := Rg_ti _
theorem Rg_qi16 (x : Int) : Rg (qi16 x) := Rg_ti _
theorem Rg_qabs (x : Int) : Rg (qabs x) := Rg_wr _
theorem Rg_qmax {x y : Int} (hx : Rg x) (hy : Rg y) : Rg (qmax x y) := by unfold qmax; split <;> assumption
theorem Rg_qmin {x y : Int} (hx : Rg x) (hy : Rg y) : Rg (qmin x y) := by unfold qmin; split <;> assumption
theorem oi_add (x y : Int) : Int32.ofInt x + Int32.ofInt y = Int32.ofInt (wr (x + y)) := by rw [oi_wr, Int32.ofInt_add]
theorem oi_sub (x y : Int) : Int32.ofInt x - Int32.ofInt y = Int32.ofInt (wr (x - y)) := by rw [oi_wr, Int32.ofInt_sub]
theorem oi_mul (x y : Int) : Int32.ofInt x * Int32.ofInt y = Int32.ofInt (wr (x * y)) := by rw [oi_wr, Int32.ofInt_mul]
theorem oi_neg (x : Int) : -Int32.ofInt x = Int32.ofInt (wr (-x)) := by rw [oi_wr, Int32.ofInt_neg]
theorem oi_div {x y : Int} (hx : Rg x) (hy : Rg y) : Int32.ofInt x / Int32.ofInt y = Int32.ofInt (qdiv x y) := by
  rw [qdiv, oi_wr]
  apply Int32.toInt_inj.mp
  rw [Int32.toInt_div, oi_ti hx, oi_ti hy, Int32.toInt_ofInt]
theorem oi_rem {x y : Int} (hx : Rg x) (hy : Rg y) : Int32.ofInt x - Int32.ofInt x / Int32.ofInt y * Int32.ofInt y = Int32.ofInt (qrem x y) := by
  rw [oi_div hx hy, qdiv, oi_wr, qrem, oi_wr, Int32.ofInt_sub, Int32.ofInt_mul]
theorem oi_abs {x : Int} (hx : Rg x) : Int32.ofInt (qabs x) = if 0 ≤ Int32.ofInt x then Int32.ofInt x else 0 - Int32.ofInt x := by
  have h := oi_le Rg_0 hx
  rw [oi_0] at h
  unfold qabs
  rw [oi_wr]
  simp only [h]
  split
  · rfl
  · rw [Int32.ofInt_sub, oi_0]
theorem oi_max {x y : Int} (hx : Rg x) (hy : Rg y) : Int32.ofInt (qmax x y) = if Int32.ofInt x < Int32.ofInt y then Int32.ofInt y else Int32.ofInt x := by
  unfold qmax
  simp only [oi_lt hx hy]
  split <;> rfl
theorem oi_min {x y : Int} (hx : Rg x) (hy : Rg y) : Int32.ofInt (qmin x y) = if Int32.ofInt y < Int32.ofInt x then Int32.ofInt y else Int32.ofInt x := by
  unfold qmin
  simp only [oi_lt hy hx]
  split <;> rfl
/-! the heap of ints: sort, number, place -/
abbrev Hp : Type := Nat → Nat → Nat → Int
def RgS (σ : Hp) : Prop := ∀ s j k, Rg (σ s j k)
def hup (σ : Hp) (s j k : Nat) (v : Int) : Hp := fun s' j' k' => if s' = s ∧ j' = j ∧ k' = k then v else σ s' j' k'
def hcp (σ : Hp) (s j sp s2 j2 dp n : Nat) : Hp := fun s' j' k' => if (s' = s2 ∧ j' = j2) ∧ dp ≤ k' ∧ k' < dp + n then σ s j (sp + (k' - dp)) else σ s' j' k'
theorem RgS_hup {σ : Hp} (h : RgS σ) {s j k : Nat} {v : Int} (hv : Rg v) : RgS (hup σ s j k v) := by
  intro a b c
  unfold hup
  split
  · exact hv
  · exact h a b c
theorem RgS_hcp {σ : Hp} (h : RgS σ) {s j sp s2 j2 dp n : Nat} : RgS (hcp σ s j sp s2 j2 dp n) := by
  intro a b c
  unfold hcp
  split
  · exact h _ _ _
  · exact h a b c
/-! partial programs: a guard, a call -/
def gd {α : Type} (c : Prop) [Decidable c] (k : Option α) : Option α := if c then k else none
def cl (o : Option (Int × Hp)) (k : Int → Hp → Option (Int × Hp)) : Option (Int × Hp) := match o with
  | none => none
  | some x => k x.1 x.2
/-- a value by name -/
def sq {α β : Type} (a : α) (k : α → β) : β := k a
theorem sq_ex {α β : Type} {a : α} {k : α → β} {r : β} (h : sq a k = r) : ∃ b, b = a ∧ k b = r := ⟨a, rfl, h⟩
def FU : Nat := 100000
theorem FU_eq : FU = 100000 := rfl
theorem gd_some {α : Type} {c : Prop} [Decidable c] {k : Option α} {r : α} (h : gd c k = some r) : c ∧ k = some r := by
  unfold gd at h
  split at h
  · exact ⟨by assumption, h⟩
  · cases h
theorem gd_pos {α : Type} {c : Prop} [Decidable c] {k : Option α} (h : c) : gd c k = k := if_pos h
theorem cl_some {o : Option (Int × Hp)} {k : Int → Hp → Option (Int × Hp)} {res : Int × Hp} (h : cl o k = some res) : ∃ (r : Int) (σ' : Hp), o = some (r, σ') ∧ k r σ' = some res := by
  unfold cl at h
  split at h
  · cases h
  · exact ⟨_, _, rfl, h⟩
theorem cl_pos (r : Int) (σ : Hp) (k : Int → Hp → Option (Int × Hp)) : cl (some (r, σ)) k = k r σ := rfl
/-! the world -/
abbrev GT : Type := va_G × (Nat → Nat → Nat) × ClassId × ClassId × ClassId × ClassId × Nat
def rf (G : GT) (s j : Nat) : Value := .ref (G.2.1 s j)
def ai (G : GT) (σ : Hp) (s j n : Nat) : va_E := .inl (G.2.2.1, n, .inl (fun k => Int32.ofInt (σ s j k)))
def ent (G : GT) (σ : Hp) : Nat → Nat → va_E
  | 0, j => .inr (0, [rf G 8 0, iv (σ 0 j 1)])
  | 1, j => .inr (1, [rf G 9 0, iv (σ 1 j 1), iv (σ 1 j 2)])
  | 2, _ => .inr (2, [rf G 10 0])
  | 3, j => .inr (3, [rf G 11 j, iv (σ 3 j 1), iv (σ 3 j 2), iv (σ 3 j 3)])
  | 4, j => .inr (4, [rf G 12 0, iv (σ 4 j 1), iv (σ 4 j 2), iv (σ 4 j 3), iv (σ 4 j 4)])
  | 5, j => .inr (5, [rf G 13 j, rf G 14 j, rf G 15 j, rf G 16 j, rf G 17 j, rf G 18 j, rf G 19 j, iv (σ 5 j 7), iv (σ 5 j 8), iv (σ 5 j 9), iv (σ 5 j 10), iv (σ 5 j 11)])
  | 6, j => .inr (6, [rf G 20 0, rf G 4 0, rf G 5 0, rf G 5 1, rf G 21 0, rf G 1 0, rf G 2 0, rf G 0 0, iv (σ 6 j 8), iv (σ 6 j 9)])
  | 7, j => .inr (7, [rf G 22 0, rf G 23 0, rf G 24 0, rf G 25 0, iv (σ 7 j 4), rf G 26 0, iv (σ 7 j 6), iv (σ 7 j 7), iv (σ 7 j 8), iv (σ 7 j 9), iv (σ 7 j 10), iv (σ 7 j 11), iv (σ 7 j 12), rf G 27 0, rf G 28 0, rf G 29 0, iv (σ 7 j 16), rf G 30 0, rf G 31 0, rf G 32 0, rf G 33 0, iv (σ 7 j 21)])
  | 8, j => ai G σ 8 j 16
  | 9, _ => .inl (G.2.2.2.2.2.1, 24, .inr (.inr (.inr (.inr (fun i => some (G.2.1 5 (4 + i)))))))
  | 10, j => ai G σ 10 j 8
  | 11, j => ai G σ 11 j 40
  | 12, j => ai G σ 12 j 140
  | 13, j => ai G σ 13 j 4
  | 14, j => ai G σ 14 j 4
  | 15, j => ai G σ 15 j 4
  | 16, j => ai G σ 16 j 8
  | 17, j => ai G σ 17 j 8
  | 18, j => ai G σ 18 j 8
  | 19, j => ai G σ 19 j 8
  | 20, _ => .inl (G.2.2.2.2.1, 8, .inr (.inr (.inr (.inr (fun i => some (G.2.1 3 i))))))
  | 21, _ => .inl (G.2.2.2.2.2.1, 2, .inr (.inr (.inr (.inr (fun i => some (G.2.1 5 (2 + i)))))))
  | 22, j => ai G σ 22 j 8
  | 23, j => ai G σ 23 j 8
  | 24, j => ai G σ 24 j 320
  | 25, j => ai G σ 25 j 40
  | 26, j => ai G σ 26 j 140
  | 27, j => ai G σ 27 j 48
  | 28, j => ai G σ 28 j 48
  | 29, j => ai G σ 29 j 1152
  | 30, j => ai G σ 30 j 96
  | 31, j => .inl (G.2.2.2.1, 2, .inl (fun k => Int32.ofInt (σ 31 j k)))
  | 32, j => ai G σ 32 j 48
  | 33, j => ai G σ 33 j 16
  | _, _ => .inr (0, [])
/-- int arrays: how long, by sort -/
def alen : Nat → Nat
  | 8 => 16 | 10 => 8 | 11 => 40 | 12 => 140 | 13 => 4 | 14 => 4 | 15 => 4 | 16 => 8 | 17 => 8 | 18 => 8 | 19 => 8
  | 22 => 8 | 23 => 8 | 24 => 320 | 25 => 40 | 26 => 140 | 27 => 48 | 28 => 48 | 29 => 1152 | 30 => 96 | 32 => 48 | 33 => 16
  | _ => 0
def cnt : Nat → Nat
  | 3 => 8 | 11 => 8 | 5 => 28 | 13 => 28 | 14 => 28 | 15 => 28 | 16 => 28 | 17 => 28 | 18 => 28 | 19 => 28
  | s => if s < 34 then 1 else 0
def InD (s j : Nat) : Prop := s < 34 ∧ j < cnt s
theorem ent_ai {G : GT} {σ : Hp} {s j : Nat} (h : 0 < alen s) : ent G σ s j = ai G σ s j (alen s) := by
  unfold alen at h ⊢
  split at h <;> first | rfl | (exact absurd h (Nat.lt_irrefl 0))
def dom : List (Nat × Nat) := (List.range 34).flatMap (fun s => (List.range (cnt s)).map (fun j => (s, j)))
def wld (G : GT) (σ : Hp) : va_W := dom.map (fun a => (G.2.1 a.1 a.2, ent G σ a.1 a.2))
theorem dom_in {s j : Nat} (h : InD s j) : (s, j) ∈ dom := List.mem_flatMap.mpr ⟨s, List.mem_range.mpr h.1, List.mem_map.mpr ⟨j, List.mem_range.mpr h.2, rfl⟩⟩
theorem dom_of {a : Nat × Nat} (h : a ∈ dom) : InD a.1 a.2 := by
  obtain ⟨s, hs, h2⟩ := List.mem_flatMap.mp h
  obtain ⟨j, hj, rfl⟩ := List.mem_map.mp h2
  exact ⟨List.mem_range.mp hs, List.mem_range.mp hj⟩
theorem wld_k {G : GT} {σ : Hp} {k : Nat} {s j : Nat} (h : dom[k]? = some (s, j)) : (wld G σ)[k]? = some (G.2.1 s j, ent G σ s j) := by
  unfold wld
  rw [List.getElem?_map, h]
  rfl
theorem wld_at {s j : Nat} (h : InD s j) : ∃ k : Nat, dom[k]? = some (s, j) := List.getElem?_of_mem (dom_in h)
theorem wld_of {G : GT} {σ : Hp} {k : Nat} {q : Nat × va_E} (h : (wld G σ)[k]? = some q) : ∃ s j, InD s j ∧ dom[k]? = some (s, j) ∧ q = (G.2.1 s j, ent G σ s j) := by
  unfold wld at h
  rw [List.getElem?_map] at h
  cases hd : dom[k]? with
  | none => rw [hd] at h; cases h
  | some a =>
    rw [hd] at h
    obtain ⟨s, j⟩ := a
    exact ⟨s, j, dom_of (List.mem_of_getElem? hd), rfl, (Option.some.inj h).symm⟩
def AA (G : GT) : Nat → Prop := fun q => ∃ s j, InD s j ∧ q = G.2.1 s j
/-- the addresses are apart -/
def GI (G : GT) : Prop := ∀ s j s' j', InD s j → InD s' j' → G.2.1 s j = G.2.1 s' j' → s = s' ∧ j = j'
theorem dom_nd : dom.Nodup := by decide +kernel
theorem wld_D {G : GT} {σ : Hp} {A : Nat → Prop} (hG : GI G) (hA : ∀ q, AA G q → A q) : va_D A (wld G σ) := by
  refine ⟨fun i j p q hi hj hpq => ?_, fun k q hk => ?_⟩
  · obtain ⟨s, a, h1, h2, rfl⟩ := wld_of hi
    obtain ⟨s', a', h3, h4, rfl⟩ := wld_of hj
    obtain ⟨rfl, rfl⟩ := hG _ _ _ _ h1 h3 hpq
    have hi' := (List.getElem?_eq_some_iff.mp h2).1
    exact (List.getElem?_inj hi' dom_nd).mp (h2.trans h4.symm)
  · obtain ⟨s, a, h1, h2, rfl⟩ := wld_of hk
    exact hA _ ⟨s, a, h1, rfl⟩
theorem ent_cg {G : GT} {σ σ' : Hp} {s j : Nat} (h : σ s j = σ' s j) : ent G σ s j = ent G σ' s j := by
  unfold ent
  split <;> first | rfl | (simp only [ai, h])
theorem wld_set {G : GT} {σ σ' : Hp} {k s j : Nat} {e : va_E} (hk : dom[k]? = some (s, j)) (he : e = ent G σ' s j) (hσ : ∀ s' j', ¬ (s' = s ∧ j' = j) → σ s' j' = σ' s' j') : (wld G σ).set k (G.2.1 s j, e) = wld G σ' := by
  subst he
  apply List.ext_getElem?
  intro i
  by_cases hi : i = k
  · subst hi
    rw [List.getElem?_set_self (List.getElem?_eq_some_iff.mp (wld_k (G := G) (σ := σ) hk)).1, wld_k hk]
  · rw [List.getElem?_set_ne (Ne.symm hi)]
    unfold wld
    rw [List.getElem?_map, List.getElem?_map]
    cases hd : dom[i]? with
    | none => rfl
    | some a =>
      obtain ⟨s', j'⟩ := a
      show some (G.2.1 s' j', ent G σ s' j') = some (G.2.1 s' j', ent G σ' s' j')
      rw [ent_cg (hσ s' j' (fun h => ?_))]
      obtain ⟨rfl, rfl⟩ := h
      have hi' := (List.getElem?_eq_some_iff.mp hd).1
      exact hi ((List.getElem?_inj hi' dom_nd).mp (hd.trans hk.symm))
theorem Rg_alen (s : Nat) : Rg (alen s : Int) := by
  unfold alen
  split <;> exact Rg_c rfl
theorem nz_b {x : Int} (h : x = 0 ∨ x = 1) : narrow .boolean (iv x) = iv x := by rcases h with rfl | rfl <;> decide
theorem fz_b {x : Int} (h : x = 0 ∨ x = 1) : fits .boolean (iv x) = true := by rcases h with rfl | rfl <;> decide
theorem lk_n {k a o d : Int} {r : List (Int × Int)} (h : ¬ k = a) : Op.lookupswitch.offset ((a, o) :: r) d k = Op.lookupswitch.offset r d k := by rw [Op.lookupswitch.offset_cons, if_neg (fun z => h z.symm)]
theorem re_1 {a : Int} {σ : Hp} {r0 : Int × Hp} (h : some (a, σ) = some r0) : a = r0.1 := by cases h; rfl
theorem re_2 {a : Int} {σ : Hp} {r0 : Int × Hp} (h : some (a, σ) = some r0) : σ = r0.2 := by cases h; rfl
theorem iD0 : InD 0 0 := ⟨by decide, by decide⟩
theorem iD1 : InD 1 0 := ⟨by decide, by decide⟩
theorem iD2 : InD 2 0 := ⟨by decide, by decide⟩
theorem iM3 {j : Nat} (h : j < 8) : InD 3 j := ⟨by decide, h⟩
theorem iD4 : InD 4 0 := ⟨by decide, by decide⟩
theorem iM5 {j : Nat} (h : j < 28) : InD 5 j := ⟨by decide, h⟩
theorem iD6 : InD 6 0 := ⟨by decide, by decide⟩
theorem iD7 : InD 7 0 := ⟨by decide, by decide⟩
theorem iD8 : InD 8 0 := ⟨by decide, by decide⟩
theorem iD9 : InD 9 0 := ⟨by decide, by decide⟩
theorem iD10 : InD 10 0 := ⟨by decide, by decide⟩
theorem iM11 {j : Nat} (h : j < 8) : InD 11 j := ⟨by decide, h⟩
theorem iD12 : InD 12 0 := ⟨by decide, by decide⟩
theorem iM13 {j : Nat} (h : j < 28) : InD 13 j := ⟨by decide, h⟩
theorem iM14 {j : Nat} (h : j < 28) : InD 14 j := ⟨by decide, h⟩
theorem iM15 {j : Nat} (h : j < 28) : InD 15 j := ⟨by decide, h⟩
theorem iM16 {j : Nat} (h : j < 28) : InD 16 j := ⟨by decide, h⟩
theorem iM17 {j : Nat} (h : j < 28) : InD 17 j := ⟨by decide, h⟩
theorem iM18 {j : Nat} (h : j < 28) : InD 18 j := ⟨by decide, h⟩
theorem iM19 {j : Nat} (h : j < 28) : InD 19 j := ⟨by decide, h⟩
theorem iD20 : InD 20 0 := ⟨by decide, by decide⟩
theorem iD21 : InD 21 0 := ⟨by decide, by decide⟩
theorem iD22 : InD 22 0 := ⟨by decide, by decide⟩
theorem iD23 : InD 23 0 := ⟨by decide, by decide⟩
theorem iD24 : InD 24 0 := ⟨by decide, by decide⟩
theorem iD25 : InD 25 0 := ⟨by decide, by decide⟩
theorem iD26 : InD 26 0 := ⟨by decide, by decide⟩
theorem iD27 : InD 27 0 := ⟨by decide, by decide⟩
theorem iD28 : InD 28 0 := ⟨by decide, by decide⟩
theorem iD29 : InD 29 0 := ⟨by decide, by decide⟩
theorem iD30 : InD 30 0 := ⟨by decide, by decide⟩
theorem iD31 : InD 31 0 := ⟨by decide, by decide⟩
theorem iD32 : InD 32 0 := ⟨by decide, by decide⟩
theorem iD33 : InD 33 0 := ⟨by decide, by decide⟩
/-! the judgement: from any heap that holds the world of σ, at pc with these locals and this stack, the machine comes to Q -/
def nsts : List (String × Nat × MethodName) := [("BarkNames", 17, yX4_init), ("BarkNames", 24, yX5_init), ("BarkNames$Past", 17, yX5_init), ("BarkNames", 45, yX2_init), ("BarkNames", 52, yX0_init), ("BarkNames", 57, yX3_init), ("BarkNames$Wood", 56, yX6_isBelow), ("BarkNames$Reading", 35, yX6_isIn), ("BarkNames$Asks", 20, yX6_isOfKind)]
def isToo : Nat → Int := fun k => ([-1, 0, 1, 1, 0, 4] : List Int).getD k 0
theorem Rg_isToo (k : Nat) : Rg (isToo k) := by
  match k with
  | 0 => exact Rg_c rfl
  | 1 => exact Rg_c rfl
  | 2 => exact Rg_c rfl
  | 3 => exact Rg_c rfl
  | 4 => exact Rg_c rfl
  | 5 => exact Rg_c rfl
  | k + 6 => exact Rg_c rfl
def tysG (G : GT) : List (ClassId × FieldType) := [(G.2.2.1, .int), (G.2.2.2.1, .boolean), (G.2.2.2.2.1, .object "BarkNames$Row"), (G.2.2.2.2.2.1, .object "BarkNames$Wood")]
def tblA (G : GT) : Nat := G.2.2.2.2.2.2
def GW (G : GT) (A : Nat → Prop) (U : State) : Prop := va_K G.1 vwCl (tysG G) U ∧ (∀ q ∈ nsts, va_Nw (.methodLinkNest q.1 q.2.1 q.2.2 "BarkNames") U) ∧ va_Z "BarkNames" "IS_TOO" "[I" (.ref (tblA G)) A U U.heap ∧ va_T .int (tblA G) 6 (fun k => iv (isToo k)) A U U.heap
def CX (p : Program) (s : State) (m : MethodId) (args : Array Value) (c : Code) (cc : ByteArray) (nL : Nat) (own : String) (Ts : List Cond) (G : GT) (A : Nat → Prop) : Prop :=
  p.tables.exec = Jvm.exec ∧ c.code = cc ∧ c.maxLocals = nL ∧ s.vm.findClass own = some m.cls ∧ (∀ w ∈ Ts, w.before args s = true) ∧ GW G A s ∧ GI G ∧ (∀ q, AA G q → A q)
def VV (p : Program) (l : Launch) (e : Env) (R : Room) (s : State) (m : MethodId) (args : Array Value) (below : List Frame) (meth : Method) (c : Code) (Q : State → Prop) (G : GT) (A : Nat → Prop) (cells slots nL : Nat) (σ : Hp) (pc : Nat) (lv : List (Nat × Value)) (st : List Value) : Prop :=
  ∀ (H : Heap) (locs : List Loc) (ls : Array Slot), lv_has ls nL lv → va_P G.1 vwCl (wld G σ) H → va_S A s.heap H locs → W p l e R s m args below meth c H locs cells slots Q (F0 m pc ls st)
theorem GW.moved {G : GT} {A B : Nat → Prop} {u U : State} {H : Heap} (hW : u.WarmedH U.vm) (h : GW G A u) (hU : U.heap = H) (hq : ∀ a : Nat, a < u.heap.size → ¬ A a → H[a]? = u.heap[a]?) (hAB : ∀ q, B q → A q) : GW G B U := by
  obtain ⟨h1, h2, h3, h4⟩ := h
  subst hU
  exact ⟨va_K.moved hW.alike h1, fun q hq => va_Nw.warmM hW (h2 q hq), (((h3.moved hW.alike).kept hq).narrow hAB), (((h4.moved hW.alike).kept hq).narrow hAB)⟩
theorem GW.calling {G : GT} {A : Nat → Prop} {U : State} {g : JFrame} {mk : MethodId} {a : Array Value} (h : GW G A U) : GW G A (U.calling g mk a) := by
  obtain ⟨h1, h2, h3, h4⟩ := h
  have hv : U.vm.Alike (U.calling g mk a).vm := Vm.Alike.refl U.vm
  exact ⟨va_K.moved (u := U) hv h1, fun q hq => va_Nw.same rfl rfl (h2 q hq), h3.moved (u := U) hv, h4.moved (u := U) hv⟩
/-- a contract of a method that answers an int: from the world of σ it answers x0, and leaves the world of σ0 -/
def Wd (G : GT) (σ : Hp) (U : State) : Prop := va_P G.1 vwCl (wld G σ) U.heap ∧ GW G (AA G) U
def Cti (l : Launch) (G : GT) (y : MethodName) (ws : List Cond) (rm : Room) (av : List Value) (σ : Hp) (x0 : Int) (σ0 : Hp) : Prop :=
  Met l y ws rm (va_Pc av (Wd G σ)) (va_Qi (fun (r : Int32) (u : Hp) => (r = Int32.ofInt x0 ∧ Rg x0 ∧ RgS σ0) ∧ u = σ0) (fun u t => va_P G.1 vwCl (wld G u) t.heap) (AA G)) 0 0 (AA G)
def Ctv (l : Launch) (G : GT) (y : MethodName) (ws : List Cond) (rm : Room) (av : List Value) (σ : Hp) (σ0 : Hp) : Prop :=
  Met l y ws rm (va_Pc av (Wd G σ)) (va_Qv (fun (u : Hp) => RgS σ0 ∧ u = σ0) (fun u t => va_P G.1 vwCl (wld G u) t.heap) (AA G)) 0 0 (AA G)
def Ctz (l : Launch) (G : GT) (y : MethodName) (ws : List Cond) (rm : Room) (av : List Value) (σ : Hp) (x0 : Int) (σ0 : Hp) : Prop := Cti l G y ws rm av σ x0 σ0 ∧ (x0 = 0 ∨ x0 = 1)
theorem Wd.blind {G : GT} {σ : Hp} {av : List Value} : FrameBlind (va_Pc av (Wd G σ)) := fun a U g mk q => ⟨q.1, q.2.1, q.2.2.calling⟩
theorem vwd {s U : State} {G : GT} {A : Nat → Prop} {σ : Hp} {H : Heap} {locs : List Loc} (hGW : GW G A s) (hAA : ∀ q, AA G q → A q) (hP : va_P G.1 vwCl (wld G σ) H) (hS : va_S A s.heap H locs) (hU : U.heap = H) (hW : s.WarmedH U.vm) : Wd G σ U := ⟨by rw [hU]; exact hP, hGW.moved hW hU hS.2.1 hAA⟩
section ROWS
variable {p : Program} {l : Launch} {e : Env} {R : Room} {s : State} {m : MethodId} {args : Array Value} {below : List Frame} {meth : Method} {c : Code} {Q : State → Prop} {G : GT} {A : Nat → Prop} {cells slots nL : Nat} {σ : Hp} {pc q : Nat} {lv : List (Nat × Value)} {st : List Value} {cc : ByteArray} {own : String} {Ts : List Cond}
theorem V_lsub {lv' : List (Nat × Value)} (ks : List Nat) (hp : lv_pick lv ks = lv') (kk : VV p l e R s m args below meth c Q G A cells slots nL σ pc lv' st) : VV p l e R s m args below meth c Q G A cells slots nL σ pc lv st := fun H locs ls hl hP hS => kk H locs ls (lv_sub hl ks hp) hP hS
theorem V_iconst (hC : CX p s m args c cc nL own Ts G A) {n : Int} (hd : decode cc pc = .ok (.iconst n, 1)) (hq : pc + 1 = q) (kk : VV p l e R s m args below meth c Q G A cells slots nL σ q lv (iv n :: st)) : VV p l e R s m args below meth c Q G A cells slots nL σ pc lv st := by
  subst hq
  intro H locs ls hl hP hS
  exact lv_iconst (v := Int32.ofInt n) hC.1 hC.2.1 hd rfl (kk H locs ls hl hP hS)
theorem V_bipush (hC : CX p s m args c cc nL own Ts G A) {n : Int} (hv : (Int8.ofInt n).toInt32 = Int32.ofInt n) (hd : decode cc pc = .ok (.bipush n, 2)) (hq : pc + 2 = q) (kk : VV p l e R s m args below meth c Q G A cells slots nL σ q lv (iv n :: st)) : VV p l e R s m args below meth c Q G A cells slots nL σ pc lv st := by
  subst hq
  intro H locs ls hl hP hS
  exact lv_bipush (v := Int32.ofInt n) hC.1 hC.2.1 hd hv (kk H locs ls hl hP hS)
theorem V_sipush (hC : CX p s m args c cc nL own Ts G A) {n : Int} (hv : (Int16.ofInt n).toInt32 = Int32.ofInt n) (hd : decode cc pc = .ok (.sipush n, 3)) (hq : pc + 3 = q) (kk : VV p l e R s m args below meth c Q G A cells slots nL σ q lv (iv n :: st)) : VV p l e R s m args below meth c Q G A cells slots nL σ pc lv st := by
  subst hq
  intro H locs ls hl hP hS
  exact lv_sipush (v := Int32.ofInt n) hC.1 hC.2.1 hd hv (kk H locs ls hl hP hS)
theorem V_ldc (hC : CX p s m args c cc nL own Ts G A) {n : Int} {ix : Nat} {v : Int32} (hv : v = Int32.ofInt n) (hk : Cond.constant own ix v ∈ Ts) (hd : decode cc pc = .ok (.ldc ix, 2)) (hq : pc + 2 = q) (kk : VV p l e R s m args below meth c Q G A cells slots nL σ q lv (iv n :: st)) : VV p l e R s m args below meth c Q G A cells slots nL σ pc lv st := by
  subst hq
  intro H locs ls hl hP hS
  subst hv
  exact lv_ldc hC.1 hC.2.1 hC.2.2.2.1 (hC.2.2.2.2.1 _ hk) hd (kk H locs ls hl hP hS)
theorem V_ldcw (hC : CX p s m args c cc nL own Ts G A) {n : Int} {ix : Nat} {v : Int32} (hv : v = Int32.ofInt n) (hk : Cond.constant own ix v ∈ Ts) (hd : decode cc pc = .ok (.ldc_w ix, 3)) (hq : pc + 3 = q) (kk : VV p l e R s m args below meth c Q G A cells slots nL σ q lv (iv n :: st)) : VV p l e R s m args below meth c Q G A cells slots nL σ pc lv st := by
  subst hq
  intro H locs ls hl hP hS
  subst hv
  exact lv_ldcw hC.1 hC.2.1 hC.2.2.2.1 (hC.2.2.2.2.1 _ hk) hd (kk H locs ls hl hP hS)
theorem V_iload_n (hC : CX p s m args c cc nL own Ts G A) {k : Fin 4} {x : Int} (i : Nat) (hl9 : lv[i]? = some ((k : Nat), iv x)) (hd : decode cc pc = .ok (.iload_n k, 1)) (hq : pc + 1 = q) (kk : VV p l e R s m args below meth c Q G A cells slots nL σ q lv (iv x :: st)) : VV p l e R s m args below meth c Q G A cells slots nL σ pc lv st := by
  subst hq
  intro H locs ls hl hP hS
  exact lv_iload_n hC.1 hC.2.1 hd rfl (lv_at hl i hl9) (kk H locs ls hl hP hS)
theorem V_iload (hC : CX p s m args c cc nL own Ts G A) {k : Nat} {x : Int} (i : Nat) (hl9 : lv[i]? = some (k, iv x)) (hd : decode cc pc = .ok (.iload k, 2)) (hq : pc + 2 = q) (kk : VV p l e R s m args below meth c Q G A cells slots nL σ q lv (iv x :: st)) : VV p l e R s m args below meth c Q G A cells slots nL σ pc lv st := by
  subst hq
  intro H locs ls hl hP hS
  exact lv_iload hC.1 hC.2.1 hd (lv_at hl i hl9) (kk H locs ls hl hP hS)
theorem V_aload_n (hC : CX p s m args c cc nL own Ts G A) {k : Fin 4} {x : Nat} (i : Nat) (hl9 : lv[i]? = some ((k : Nat), .ref x)) (hd : decode cc pc = .ok (.aload_n k, 1)) (hq : pc + 1 = q) (kk : VV p l e R s m args below meth c Q G A cells slots nL σ q lv (.ref x :: st)) : VV p l e R s m args below meth c Q G A cells slots nL σ pc lv st := by
  subst hq
  intro H locs ls hl hP hS
  exact lv_aload_n hC.1 hC.2.1 hd rfl (lv_at hl i hl9) (kk H locs ls hl hP hS)
theorem V_aload (hC : CX p s m args c cc nL own Ts G A) {k : Nat} {x : Nat} (i : Nat) (hl9 : lv[i]? = some (k, .ref x)) (hd : decode cc pc = .ok (.aload k, 2)) (hq : pc + 2 = q) (kk : VV p l e R s m args below meth c Q G A cells slots nL σ q lv (.ref x :: st)) : VV p l e R s m args below meth c Q G A cells slots nL σ pc lv st := by
  subst hq
  intro H locs ls hl hP hS
  exact lv_aload hC.1 hC.2.1 hd (lv_at hl i hl9) (kk H locs ls hl hP hS)
theorem V_istore_n (hC : CX p s m args c cc nL own Ts G A) {k : Fin 4} {i : Nat} {x : Int} {lv' : List (Nat × Value)} (ks : List Nat) (hi : (k : Nat) = i) (hn : i < nL) (hp : lv_pick ((i, iv x) :: lv.filter (fun q => !(q.1 == i) && !(q.1 + 1 == i && q.2.category == 2))) ks = lv') (hd : decode cc pc = .ok (.istore_n k, 1)) (hq : pc + 1 = q) (kk : VV p l e R s m args below meth c Q G A cells slots nL σ q lv' st) : VV p l e R s m args below meth c Q G A cells slots nL σ pc lv (iv x :: st) := by
  subst hq
  intro H locs ls hl hP hS
  exact lv_istore_n hC.1 hC.2.1 hd hi hl hn rfl (fun ls' hl' => kk H locs ls' (lv_sub hl' ks hp) hP hS)
theorem V_istore (hC : CX p s m args c cc nL own Ts G A)  {i : Nat} {x : Int} {lv' : List (Nat × Value)} (ks : List Nat) (hn : i < nL) (hp : lv_pick ((i, iv x) :: lv.filter (fun q => !(q.1 == i) && !(q.1 + 1 == i && q.2.category == 2))) ks = lv') (hd : decode cc pc = .ok (.istore i, 2)) (hq : pc + 2 = q) (kk : VV p l e R s m args below meth c Q G A cells slots nL σ q lv' st) : VV p l e R s m args below meth c Q G A cells slots nL σ pc lv (iv x :: st) := by
  subst hq
  intro H locs ls hl hP hS
  exact lv_istore hC.1 hC.2.1 hd hl hn rfl (fun ls' hl' => kk H locs ls' (lv_sub hl' ks hp) hP hS)
theorem V_astore_n (hC : CX p s m args c cc nL own Ts G A) {k : Fin 4} {i : Nat} {x : Nat} {lv' : List (Nat × Value)} (ks : List Nat) (hi : (k : Nat) = i) (hn : i < nL) (hp : lv_pick ((i, .ref x) :: lv.filter (fun q => !(q.1 == i) && !(q.1 + 1 == i && q.2.category == 2))) ks = lv') (hd : decode cc pc = .ok (.astore_n k, 1)) (hq : pc + 1 = q) (kk : VV p l e R s m args below meth c Q G A cells slots nL σ q lv' st) : VV p l e R s m args below meth c Q G A cells slots nL σ pc lv (.ref x :: st) := by
  subst hq
  intro H locs ls hl hP hS
  exact lv_astore_n hC.1 hC.2.1 hd hi hl hn rfl (fun ls' hl' => kk H locs ls' (lv_sub hl' ks hp) hP hS)
theorem V_astore (hC : CX p s m args c cc nL own Ts G A)  {i : Nat} {x : Nat} {lv' : List (Nat × Value)} (ks : List Nat) (hn : i < nL) (hp : lv_pick ((i, .ref x) :: lv.filter (fun q => !(q.1 == i) && !(q.1 + 1 == i && q.2.category == 2))) ks = lv') (hd : decode cc pc = .ok (.astore i, 2)) (hq : pc + 2 = q) (kk : VV p l e R s m args below meth c Q G A cells slots nL σ q lv' st) : VV p l e R s m args below meth c Q G A cells slots nL σ pc lv (.ref x :: st) := by
  subst hq
  intro H locs ls hl hP hS
  exact lv_astore hC.1 hC.2.1 hd hl hn rfl (fun ls' hl' => kk H locs ls' (lv_sub hl' ks hp) hP hS)
theorem V_iinc (hC : CX p s m args c cc nL own Ts G A) {i : Nat} {n x : Int} {lv' : List (Nat × Value)} (k : Nat) (hk : lv[k]? = some (i, iv x)) (ks : List Nat) (hn : i < nL) (hp : lv_pick ((i, iv (wr (x + n))) :: lv.filter (fun q => !(q.1 == i) && !(q.1 + 1 == i && q.2.category == 2))) ks = lv') (hd : decode cc pc = .ok (.iinc i n, 3)) (hq : pc + 3 = q) (kk : VV p l e R s m args below meth c Q G A cells slots nL σ q lv' st) : VV p l e R s m args below meth c Q G A cells slots nL σ pc lv st := by
  subst hq
  intro H locs ls hl hP hS
  exact lv_iinc hC.1 hC.2.1 hd hl hk (v := Int32.ofInt (wr (x + n))) (oi_add x n) hn rfl (fun ls' hl' => kk H locs ls' (lv_sub hl' ks hp) hP hS)
theorem V_iadd (hC : CX p s m args c cc nL own Ts G A) {x y : Int} (hd : decode cc pc = .ok (.iadd, 1)) (hq : pc + 1 = q) (kk : VV p l e R s m args below meth c Q G A cells slots nL σ q lv (iv (wr (x + y)) :: st)) : VV p l e R s m args below meth c Q G A cells slots nL σ pc lv (iv y :: iv x :: st) := by
  subst hq
  intro H locs ls hl hP hS
  exact lv_iadd hC.1 hC.2.1 hd (by rw [oi_add]; exact (kk H locs ls hl hP hS))
theorem V_isub (hC : CX p s m args c cc nL own Ts G A) {x y : Int} (hd : decode cc pc = .ok (.isub, 1)) (hq : pc + 1 = q) (kk : VV p l e R s m args below meth c Q G A cells slots nL σ q lv (iv (wr (x - y)) :: st)) : VV p l e R s m args below meth c Q G A cells slots nL σ pc lv (iv y :: iv x :: st) := by
  subst hq
  intro H locs ls hl hP hS
  exact lv_isub hC.1 hC.2.1 hd (by rw [oi_sub]; exact (kk H locs ls hl hP hS))
theorem V_imul (hC : CX p s m args c cc nL own Ts G A) {x y : Int} (hd : decode cc pc = .ok (.imul, 1)) (hq : pc + 1 = q) (kk : VV p l e R s m args below meth c Q G A cells slots nL σ q lv (iv (wr (x * y)) :: st)) : VV p l e R s m args below meth c Q G A cells slots nL σ pc lv (iv y :: iv x :: st) := by
  subst hq
  intro H locs ls hl hP hS
  exact lv_imul hC.1 hC.2.1 hd (by rw [oi_mul]; exact (kk H locs ls hl hP hS))
theorem V_ineg (hC : CX p s m args c cc nL own Ts G A) {x : Int} (hd : decode cc pc = .ok (.ineg, 1)) (hq : pc + 1 = q) (kk : VV p l e R s m args below meth c Q G A cells slots nL σ q lv (iv (wr (-x)) :: st)) : VV p l e R s m args below meth c Q G A cells slots nL σ pc lv (iv x :: st) := by
  subst hq
  intro H locs ls hl hP hS
  exact lv_ineg hC.1 hC.2.1 hd (by rw [oi_neg]; exact (kk H locs ls hl hP hS))
theorem V_iand (hC : CX p s m args c cc nL own Ts G A) {x y : Int} (hd : decode cc pc = .ok (.iand, 1)) (hq : pc + 1 = q) (kk : VV p l e R s m args below meth c Q G A cells slots nL σ q lv (iv (qand x y) :: st)) : VV p l e R s m args below meth c Q G A cells slots nL σ pc lv (iv y :: iv x :: st) := by
  subst hq
  intro H locs ls hl hP hS
  have kk := (kk H locs ls hl hP hS)
  rw [qand, iv_ti] at kk
  exact lv_iand hC.1 hC.2.1 hd kk
theorem V_ior (hC : CX p s m args c cc nL own Ts G A) {x y : Int} (hd : decode cc pc = .ok (.ior, 1)) (hq : pc + 1 = q) (kk : VV p l e R s m args below meth c Q G A cells slots nL σ q lv (iv (qor x y) :: st)) : VV p l e R s m args below meth c Q G A cells slots nL σ pc lv (iv y :: iv x :: st) := by
  subst hq
  intro H locs ls hl hP hS
  have kk := (kk H locs ls hl hP hS)
  rw [qor, iv_ti] at kk
  exact lv_ior hC.1 hC.2.1 hd kk
theorem V_ixor (hC : CX p s m args c cc nL own Ts G A) {x y : Int} (hd : decode cc pc = .ok (.ixor, 1)) (hq : pc + 1 = q) (kk : VV p l e R s m args below meth c Q G A cells slots nL σ q lv (iv (qxor x y) :: st)) : VV p l e R s m args below meth c Q G A cells slots nL σ pc lv (iv y :: iv x :: st) := by
  subst hq
  intro H locs ls hl hP hS
  have kk := (kk H locs ls hl hP hS)
  rw [qxor, iv_ti] at kk
  exact lv_ixor hC.1 hC.2.1 hd kk
theorem V_ishl (hC : CX p s m args c cc nL own Ts G A) {x y : Int} (hd : decode cc pc = .ok (.ishl, 1)) (hq : pc + 1 = q) (kk : VV p l e R s m args below meth c Q G A cells slots nL σ q lv (iv (qshl x y) :: st)) : VV p l e R s m args below meth c Q G A cells slots nL σ pc lv (iv y :: iv x :: st) := by
  subst hq
  intro H locs ls hl hP hS
  have kk := (kk H locs ls hl hP hS)
  rw [qshl, iv_ti] at kk
  exact lv_ishl hC.1 hC.2.1 hd kk
theorem V_ishr (hC : CX p s m args c cc nL own Ts G A) {x y : Int} (hd : decode cc pc = .ok (.ishr, 1)) (hq : pc + 1 = q) (kk : VV p l e R s m args below meth c Q G A cells slots nL σ q lv (iv (qshr x y) :: st)) : VV p l e R s m args below meth c Q G A cells slots nL σ pc lv (iv y :: iv x :: st) := by
  subst hq
  intro H locs ls hl hP hS
  have kk := (kk H locs ls hl hP hS)
  rw [qshr, iv_ti] at kk
  exact lv_ishr hC.1 hC.2.1 hd kk
theorem V_iushr (hC : CX p s m args c cc nL own Ts G A) {x y : Int} (hd : decode cc pc = .ok (.iushr, 1)) (hq : pc + 1 = q) (kk : VV p l e R s m args below meth c Q G A cells slots nL σ q lv (iv (qushr x y) :: st)) : VV p l e R s m args below meth c Q G A cells slots nL σ pc lv (iv y :: iv x :: st) := by
  subst hq
  intro H locs ls hl hP hS
  have kk := (kk H locs ls hl hP hS)
  rw [qushr, iv_ti] at kk
  exact lv_iushr hC.1 hC.2.1 hd rfl kk
theorem V_i2b (hC : CX p s m args c cc nL own Ts G A) {x : Int} (hd : decode cc pc = .ok (.i2b, 1)) (hq : pc + 1 = q) (kk : VV p l e R s m args below meth c Q G A cells slots nL σ q lv (iv (qi8 x) :: st)) : VV p l e R s m args below meth c Q G A cells slots nL σ pc lv (iv x :: st) := by
  subst hq
  intro H locs ls hl hP hS
  have kk := (kk H locs ls hl hP hS)
  rw [qi8, iv_ti] at kk
  exact lv_i2b hC.1 hC.2.1 hd rfl kk
theorem V_i2s (hC : CX p s m args c cc nL own Ts G A) {x : Int} (hd : decode cc pc = .ok (.i2s, 1)) (hq : pc + 1 = q) (kk : VV p l e R s m args below meth c Q G A cells slots nL σ q lv (iv (qi16 x) :: st)) : VV p l e R s m args below meth c Q G A cells slots nL σ pc lv (iv x :: st) := by
  subst hq
  intro H locs ls hl hP hS
  have kk := (kk H locs ls hl hP hS)
  rw [qi16, iv_ti] at kk
  exact lv_i2s hC.1 hC.2.1 hd rfl kk
theorem V_idiv (hC : CX p s m args c cc nL own Ts G A) {x y : Int} (hx : Rg x) (hy : Rg y) (hne : y ≠ 0) (hd : decode cc pc = .ok (.idiv, 1)) (hq : pc + 1 = q) (kk : VV p l e R s m args below meth c Q G A cells slots nL σ q lv (iv (qdiv x y) :: st)) : VV p l e R s m args below meth c Q G A cells slots nL σ pc lv (iv y :: iv x :: st) := by
  subst hq
  intro H locs ls hl hP hS
  exact lv_idiv hC.1 hC.2.1 hd (fun h => hne ((oi_eq hy Rg_0).mp h)) (by rw [oi_div hx hy]; exact (kk H locs ls hl hP hS))
theorem V_irem (hC : CX p s m args c cc nL own Ts G A) {x y : Int} (hx : Rg x) (hy : Rg y) (hne : y ≠ 0) (hd : decode cc pc = .ok (.irem, 1)) (hq : pc + 1 = q) (kk : VV p l e R s m args below meth c Q G A cells slots nL σ q lv (iv (qrem x y) :: st)) : VV p l e R s m args below meth c Q G A cells slots nL σ pc lv (iv y :: iv x :: st) := by
  subst hq
  intro H locs ls hl hP hS
  exact lv_irem hC.1 hC.2.1 hd (fun h => hne ((oi_eq hy Rg_0).mp h)) (by rw [oi_rem hx hy]; exact (kk H locs ls hl hP hS))
theorem V_dup (hC : CX p s m args c cc nL own Ts G A) {v : Value} (hv : v.category = 1) (hd : decode cc pc = .ok (.dup, 1)) (hq : pc + 1 = q) (kk : VV p l e R s m args below meth c Q G A cells slots nL σ q lv (v :: v :: st)) : VV p l e R s m args below meth c Q G A cells slots nL σ pc lv (v :: st) := by
  subst hq
  intro H locs ls hl hP hS
  exact lv_dup hC.1 hC.2.1 hd hv (kk H locs ls hl hP hS)
theorem V_dup2 (hC : CX p s m args c cc nL own Ts G A) {v u : Value} (hv : v.category = 1) (hu : u.category = 1) (hd : decode cc pc = .ok (.dup2, 1)) (hq : pc + 1 = q) (kk : VV p l e R s m args below meth c Q G A cells slots nL σ q lv (v :: u :: v :: u :: st)) : VV p l e R s m args below meth c Q G A cells slots nL σ pc lv (v :: u :: st) := by
  subst hq
  intro H locs ls hl hP hS
  exact lv_dup2_11 hC.1 hC.2.1 hd hv hu (kk H locs ls hl hP hS)
theorem V_pop (hC : CX p s m args c cc nL own Ts G A) {v : Value} (hv : v.category = 1) (hd : decode cc pc = .ok (.pop, 1)) (hq : pc + 1 = q) (kk : VV p l e R s m args below meth c Q G A cells slots nL σ q lv st) : VV p l e R s m args below meth c Q G A cells slots nL σ pc lv (v :: st) := by
  subst hq
  intro H locs ls hl hP hS
  exact lv_pop hC.1 hC.2.1 hd hv (kk H locs ls hl hP hS)
theorem V_if_eq (hC : CX p s m args c cc nL own Ts G A) {x : Int} {off : Int} {tgt : Nat} (hx : Rg x) (hd : decode cc pc = .ok (.ifCond .eq off, 3)) (ht : (pc : Int) + off = (tgt : Int)) (hq : pc + 3 = q) (kt : x = 0 → VV p l e R s m args below meth c Q G A cells slots nL σ tgt lv st) (kf : ¬ (x = 0) → VV p l e R s m args below meth c Q G A cells slots nL σ q lv st) : VV p l e R s m args below meth c Q G A cells slots nL σ pc lv (iv x :: st) := by
  subst hq
  intro H locs ls hl hP hS
  exact lv_if_eq hC.1 hC.2.1 hd ht (fun h => kt ((oi_eq hx Rg_0).mp h) H locs ls hl hP hS) (fun h => kf (fun h2 => h ((oi_eq hx Rg_0).mpr h2)) H locs ls hl hP hS)
theorem V_icmp_eq (hC : CX p s m args c cc nL own Ts G A) {x y : Int} {off : Int} {tgt : Nat} (hx : Rg x) (hy : Rg y) (hd : decode cc pc = .ok (.if_icmp .eq off, 3)) (ht : (pc : Int) + off = (tgt : Int)) (hq : pc + 3 = q) (kt : x = y → VV p l e R s m args below meth c Q G A cells slots nL σ tgt lv st) (kf : ¬ (x = y) → VV p l e R s m args below meth c Q G A cells slots nL σ q lv st) : VV p l e R s m args below meth c Q G A cells slots nL σ pc lv (iv y :: iv x :: st) := by
  subst hq
  intro H locs ls hl hP hS
  exact lv_icmp_eq hC.1 hC.2.1 hd ht (fun h => kt ((oi_eq hx hy).mp h) H locs ls hl hP hS) (fun h => kf (fun h2 => h ((oi_eq hx hy).mpr h2)) H locs ls hl hP hS)
theorem V_if_ne (hC : CX p s m args c cc nL own Ts G A) {x : Int} {off : Int} {tgt : Nat} (hx : Rg x) (hd : decode cc pc = .ok (.ifCond .ne off, 3)) (ht : (pc : Int) + off = (tgt : Int)) (hq : pc + 3 = q) (kt : ¬ x = 0 → VV p l e R s m args below meth c Q G A cells slots nL σ tgt lv st) (kf : x = 0 → VV p l e R s m args below meth c Q G A cells slots nL σ q lv st) : VV p l e R s m args below meth c Q G A cells slots nL σ pc lv (iv x :: st) := by
  subst hq
  intro H locs ls hl hP hS
  exact lv_if_ne hC.1 hC.2.1 hd ht (fun h => kt ((not_congr (oi_eq hx Rg_0)).mp h) H locs ls hl hP hS) (fun h => kf ((oi_eq hx Rg_0).mp h) H locs ls hl hP hS)
theorem V_icmp_ne (hC : CX p s m args c cc nL own Ts G A) {x y : Int} {off : Int} {tgt : Nat} (hx : Rg x) (hy : Rg y) (hd : decode cc pc = .ok (.if_icmp .ne off, 3)) (ht : (pc : Int) + off = (tgt : Int)) (hq : pc + 3 = q) (kt : ¬ x = y → VV p l e R s m args below meth c Q G A cells slots nL σ tgt lv st) (kf : x = y → VV p l e R s m args below meth c Q G A cells slots nL σ q lv st) : VV p l e R s m args below meth c Q G A cells slots nL σ pc lv (iv y :: iv x :: st) := by
  subst hq
  intro H locs ls hl hP hS
  exact lv_icmp_ne hC.1 hC.2.1 hd ht (fun h => kt ((not_congr (oi_eq hx hy)).mp h) H locs ls hl hP hS) (fun h => kf ((oi_eq hx hy).mp h) H locs ls hl hP hS)
theorem V_if_lt (hC : CX p s m args c cc nL own Ts G A) {x : Int} {off : Int} {tgt : Nat} (hx : Rg x) (hd : decode cc pc = .ok (.ifCond .lt off, 3)) (ht : (pc : Int) + off = (tgt : Int)) (hq : pc + 3 = q) (kt : x < 0 → VV p l e R s m args below meth c Q G A cells slots nL σ tgt lv st) (kf : ¬ (x < 0) → VV p l e R s m args below meth c Q G A cells slots nL σ q lv st) : VV p l e R s m args below meth c Q G A cells slots nL σ pc lv (iv x :: st) := by
  subst hq
  intro H locs ls hl hP hS
  exact lv_if_lt hC.1 hC.2.1 hd ht (fun h => kt ((oi_lt hx Rg_0).mp h) H locs ls hl hP hS) (fun h => kf (fun h2 => h ((oi_lt hx Rg_0).mpr h2)) H locs ls hl hP hS)
theorem V_icmp_lt (hC : CX p s m args c cc nL own Ts G A) {x y : Int} {off : Int} {tgt : Nat} (hx : Rg x) (hy : Rg y) (hd : decode cc pc = .ok (.if_icmp .lt off, 3)) (ht : (pc : Int) + off = (tgt : Int)) (hq : pc + 3 = q) (kt : x < y → VV p l e R s m args below meth c Q G A cells slots nL σ tgt lv st) (kf : ¬ (x < y) → VV p l e R s m args below meth c Q G A cells slots nL σ q lv st) : VV p l e R s m args below meth c Q G A cells slots nL σ pc lv (iv y :: iv x :: st) := by
  subst hq
  intro H locs ls hl hP hS
  exact lv_icmp_lt hC.1 hC.2.1 hd ht (fun h => kt ((oi_lt hx hy).mp h) H locs ls hl hP hS) (fun h => kf (fun h2 => h ((oi_lt hx hy).mpr h2)) H locs ls hl hP hS)
theorem V_if_ge (hC : CX p s m args c cc nL own Ts G A) {x : Int} {off : Int} {tgt : Nat} (hx : Rg x) (hd : decode cc pc = .ok (.ifCond .ge off, 3)) (ht : (pc : Int) + off = (tgt : Int)) (hq : pc + 3 = q) (kt : 0 ≤ x → VV p l e R s m args below meth c Q G A cells slots nL σ tgt lv st) (kf : ¬ (0 ≤ x) → VV p l e R s m args below meth c Q G A cells slots nL σ q lv st) : VV p l e R s m args below meth c Q G A cells slots nL σ pc lv (iv x :: st) := by
  subst hq
  intro H locs ls hl hP hS
  exact lv_if_ge hC.1 hC.2.1 hd ht (fun h => kt ((oi_le Rg_0 hx).mp h) H locs ls hl hP hS) (fun h => kf (fun h2 => h ((oi_le Rg_0 hx).mpr h2)) H locs ls hl hP hS)
theorem V_icmp_ge (hC : CX p s m args c cc nL own Ts G A) {x y : Int} {off : Int} {tgt : Nat} (hx : Rg x) (hy : Rg y) (hd : decode cc pc = .ok (.if_icmp .ge off, 3)) (ht : (pc : Int) + off = (tgt : Int)) (hq : pc + 3 = q) (kt : y ≤ x → VV p l e R s m args below meth c Q G A cells slots nL σ tgt lv st) (kf : ¬ (y ≤ x) → VV p l e R s m args below meth c Q G A cells slots nL σ q lv st) : VV p l e R s m args below meth c Q G A cells slots nL σ pc lv (iv y :: iv x :: st) := by
  subst hq
  intro H locs ls hl hP hS
  exact lv_icmp_ge hC.1 hC.2.1 hd ht (fun h => kt ((oi_le hy hx).mp h) H locs ls hl hP hS) (fun h => kf (fun h2 => h ((oi_le hy hx).mpr h2)) H locs ls hl hP hS)
theorem V_if_gt (hC : CX p s m args c cc nL own Ts G A) {x : Int} {off : Int} {tgt : Nat} (hx : Rg x) (hd : decode cc pc = .ok (.ifCond .gt off, 3)) (ht : (pc : Int) + off = (tgt : Int)) (hq : pc + 3 = q) (kt : 0 < x → VV p l e R s m args below meth c Q G A cells slots nL σ tgt lv st) (kf : ¬ (0 < x) → VV p l e R s m args below meth c Q G A cells slots nL σ q lv st) : VV p l e R s m args below meth c Q G A cells slots nL σ pc lv (iv x :: st) := by
  subst hq
  intro H locs ls hl hP hS
  exact lv_if_gt hC.1 hC.2.1 hd ht (fun h => kt ((oi_lt Rg_0 hx).mp h) H locs ls hl hP hS) (fun h => kf (fun h2 => h ((oi_lt Rg_0 hx).mpr h2)) H locs ls hl hP hS)
theorem V_icmp_gt (hC : CX p s m args c cc nL own Ts G A) {x y : Int} {off : Int} {tgt : Nat} (hx : Rg x) (hy : Rg y) (hd : decode cc pc = .ok (.if_icmp .gt off, 3)) (ht : (pc : Int) + off = (tgt : Int)) (hq : pc + 3 = q) (kt : y < x → VV p l e R s m args below meth c Q G A cells slots nL σ tgt lv st) (kf : ¬ (y < x) → VV p l e R s m args below meth c Q G A cells slots nL σ q lv st) : VV p l e R s m args below meth c Q G A cells slots nL σ pc lv (iv y :: iv x :: st) := by
  subst hq
  intro H locs ls hl hP hS
  exact lv_icmp_gt hC.1 hC.2.1 hd ht (fun h => kt ((oi_lt hy hx).mp h) H locs ls hl hP hS) (fun h => kf (fun h2 => h ((oi_lt hy hx).mpr h2)) H locs ls hl hP hS)
theorem V_if_le (hC : CX p s m args c cc nL own Ts G A) {x : Int} {off : Int} {tgt : Nat} (hx : Rg x) (hd : decode cc pc = .ok (.ifCond .le off, 3)) (ht : (pc : Int) + off = (tgt : Int)) (hq : pc + 3 = q) (kt : x ≤ 0 → VV p l e R s m args below meth c Q G A cells slots nL σ tgt lv st) (kf : ¬ (x ≤ 0) → VV p l e R s m args below meth c Q G A cells slots nL σ q lv st) : VV p l e R s m args below meth c Q G A cells slots nL σ pc lv (iv x :: st) := by
  subst hq
  intro H locs ls hl hP hS
  exact lv_if_le hC.1 hC.2.1 hd ht (fun h => kt ((oi_le hx Rg_0).mp h) H locs ls hl hP hS) (fun h => kf (fun h2 => h ((oi_le hx Rg_0).mpr h2)) H locs ls hl hP hS)
theorem V_icmp_le (hC : CX p s m args c cc nL own Ts G A) {x y : Int} {off : Int} {tgt : Nat} (hx : Rg x) (hy : Rg y) (hd : decode cc pc = .ok (.if_icmp .le off, 3)) (ht : (pc : Int) + off = (tgt : Int)) (hq : pc + 3 = q) (kt : x ≤ y → VV p l e R s m args below meth c Q G A cells slots nL σ tgt lv st) (kf : ¬ (x ≤ y) → VV p l e R s m args below meth c Q G A cells slots nL σ q lv st) : VV p l e R s m args below meth c Q G A cells slots nL σ pc lv (iv y :: iv x :: st) := by
  subst hq
  intro H locs ls hl hP hS
  exact lv_icmp_le hC.1 hC.2.1 hd ht (fun h => kt ((oi_le hx hy).mp h) H locs ls hl hP hS) (fun h => kf (fun h2 => h ((oi_le hx hy).mpr h2)) H locs ls hl hP hS)
theorem V_goto (hC : CX p s m args c cc nL own Ts G A) {off : Int} {tgt : Nat} (hd : decode cc pc = .ok (.goto off, 3)) (ht : (pc : Int) + off = (tgt : Int)) (kk : VV p l e R s m args below meth c Q G A cells slots nL σ tgt lv st) : VV p l e R s m args below meth c Q G A cells slots nL σ pc lv st := by
  intro H locs ls hl hP hS
  exact lv_goto hC.1 hC.2.1 hd ht (kk H locs ls hl hP hS)
theorem V_tabOut (hC : CX p s m args c cc nL own Ts G A) {x dflt lo hi : Int} {offs : Array Int} {len tgt : Nat} (hx : Rg x) (hd : decode cc pc = .ok (.tableswitch dflt lo hi offs, len)) (h : x < lo ∨ hi < x) (ht : (pc : Int) + dflt = (tgt : Int)) (kk : VV p l e R s m args below meth c Q G A cells slots nL σ tgt lv st) : VV p l e R s m args below meth c Q G A cells slots nL σ pc lv (iv x :: st) := by
  intro H locs ls hl hP hS
  exact lv_tableOut hC.1 hC.2.1 hd (by rw [oi_ti hx]; exact h) ht (kk H locs ls hl hP hS)
theorem V_tabIn (hC : CX p s m args c cc nL own Ts G A) {x dflt lo hi off : Int} {offs : Array Int} {len tgt : Nat} (hx : Rg x) (hd : decode cc pc = .ok (.tableswitch dflt lo hi offs, len)) (h1 : lo ≤ x) (h2 : x ≤ hi) (ho : offs[(x - lo).toNat]? = some off) (ht : (pc : Int) + off = (tgt : Int)) (kk : VV p l e R s m args below meth c Q G A cells slots nL σ tgt lv st) : VV p l e R s m args below meth c Q G A cells slots nL σ pc lv (iv x :: st) := by
  intro H locs ls hl hP hS
  exact lv_tableIn hC.1 hC.2.1 hd (by rw [oi_ti hx]; omega) (by rw [oi_ti hx]; omega) (by rw [oi_ti hx]; exact ho) ht (kk H locs ls hl hP hS)
theorem V_lookup (hC : CX p s m args c cc nL own Ts G A) {x dflt off : Int} {ps : Array (Int × Int)} {len tgt : Nat} (hx : Rg x) (hd : decode cc pc = .ok (.lookupswitch dflt ps, len)) (hp : (ps.toList.zip (ps.toList.drop 1)).all (fun (a, next) => a.1 < next.1) = true) (ho : Op.lookupswitch.offset ps.toList dflt x = off) (ht : (pc : Int) + off = (tgt : Int)) (kk : VV p l e R s m args below meth c Q G A cells slots nL σ tgt lv st) : VV p l e R s m args below meth c Q G A cells slots nL σ pc lv (iv x :: st) := by
  intro H locs ls hl hP hS
  exact lv_lookup hC.1 hC.2.1 hd hp (by rw [oi_ti hx]; exact ho) ht (kk H locs ls hl hP hS)
theorem V_getf (hC : CX p s m args c cc nL own Ts G A) {Cn : String} {T : u_T} {N ix k s0 j0 : Nat} {fs : List Value} {v : Value} (hin : ∀ w ∈ u_ws Cn T N, w ∈ Ts) (hcl : vwCl[s0]? = some (Cn, T, N)) (hI : InD s0 j0) (he : ent G σ s0 j0 = .inr (s0, fs)) (hk : k < N) (hlk : Cond.fieldLink own ix (T k).1 (T k).2.1 (T k).2.2.1 ∈ Ts) (hv : fs[k]? = some v) (hd : decode cc pc = .ok (.getfield ix, 3)) (hq : pc + 3 = q) (kk : VV p l e R s m args below meth c Q G A cells slots nL σ q lv (v :: st)) : VV p l e R s m args below meth c Q G A cells slots nL σ pc lv (rf G s0 j0 :: st) := by
  subst hq
  intro H locs ls hl hP hS
  obtain ⟨q0, hq0⟩ := wld_at hI
  exact va_get hC.1 hC.2.1 hC.2.2.2.2.1 hin hC.2.2.2.1 hC.2.2.2.2.2.1.1 hP q0 (by rw [← he]; exact wld_k hq0) hcl k hk (hC.2.2.2.2.1 _ hlk) (fun _ h => h) hv hd (kk H locs ls hl hP hS)
theorem V_putf (hC : CX p s m args c cc nL own Ts G A) {Cn : String} {T : u_T} {N ix k s0 j0 : Nat} {fs : List Value} {x : Int} {ty : FieldType} (hin : ∀ w ∈ u_ws Cn T N, w ∈ Ts) (hcl : vwCl[s0]? = some (Cn, T, N)) (ty0 : Nat → FieldType) (hty : ∀ k, k < N → parseFieldDescriptor (T k).2.2.1 = some (ty0 k)) (hnm : ∀ a, a < N → ∀ b, b < N → a ≠ b → (T a).2.1 ≠ (T b).2.1) (hI : InD s0 j0) (he : ent G σ s0 j0 = .inr (s0, fs)) (he2 : .inr (s0, fs.set k (iv x)) = ent G (hup σ s0 j0 k x) s0 j0) (hk : k < N) (hlk : Cond.fieldLink own ix (T k).1 (T k).2.1 (T k).2.2.1 ∈ Ts) (hfin : (T k).2.2.2 = false) (hd2 : parseFieldDescriptor (T k).2.2.1 = some ty) (hn : narrow ty (iv x) = iv x) (hfit : fits ty (iv x) = true) (hlen : k < fs.length) {σ' : Hp} (he9 : σ' = (hup σ s0 j0 k x)) (hd : decode cc pc = .ok (.putfield ix, 3)) (hq : pc + 3 = q) (kk : VV p l e R s m args below meth c Q G A cells slots nL σ' q lv st) : VV p l e R s m args below meth c Q G A cells slots nL σ pc lv (iv x :: rf G s0 j0 :: st) := by
  subst hq
  intro H locs ls hl hP hS
  subst he9
  obtain ⟨q0, hq0⟩ := wld_at hI
  refine va_put hC.1 hC.2.1 hC.2.2.2.2.1 hin ty0 hty hnm hC.2.2.2.1 hC.2.2.2.2.2.1.1 hP (wld_D hC.2.2.2.2.2.2.1 hC.2.2.2.2.2.2.2) hS q0 (by rw [← he]; exact wld_k hq0) hcl k hk (hC.2.2.2.2.1 _ hlk) (fun _ h => h) hfin hd2 hn hfit hlen hd (fun H1 locs1 hP1 _ hS1 => kk H1 locs1 ls hl ?_ hS1)
  rw [wld_set hq0 he2 (fun s' j' h => by funext k'; unfold hup; rw [if_neg (fun z => h ⟨z.1, z.2.1⟩)])] at hP1
  exact hP1
theorem V_iald (hC : CX p s m args c cc nL own Ts G A) {s0 j0 : Nat} {i : Int} {n : Nat} (hI : InD s0 j0) (ha : alen s0 = n) (hb0 : 0 ≤ i ∧ i < (n : Int)) (hi : Rg i) (hd : decode cc pc = .ok (.iaload, 1)) (hq : pc + 1 = q) (kk : VV p l e R s m args below meth c Q G A cells slots nL σ q lv (iv (σ s0 j0 i.toNat) :: st)) : VV p l e R s m args below meth c Q G A cells slots nL σ pc lv (iv i :: rf G s0 j0 :: st) := by
  subst hq
  intro H locs ls hl hP hS
  obtain ⟨q0, hq0⟩ := wld_at hI
  subst ha
  have hk := kk H locs ls hl hP hS
  refine va_iald hC.1 hC.2.1 hC.2.2.2.2.2.1.1 hP q0 0 (cA := G.2.2.1) (n := alen s0) (f := fun k => Int32.ofInt (σ s0 j0 k)) (by rw [wld_k hq0, ent_ai (by omega)]; rfl) rfl (oi_in hi hb0) hd ?_
  show W p l e R s m args below meth c H locs cells slots Q (F0 m (pc + 1) ls (Value.int (Int32.ofInt (σ s0 j0 (Int32.ofInt i).toNatClampNeg)) :: st))
  rw [oi_nat hb0.1 hi]
  exact hk
theorem V_iast (hC : CX p s m args c cc nL own Ts G A) {s0 j0 : Nat} {i x : Int} {n : Nat} (hI : InD s0 j0) (ha : alen s0 = n) (hb0 : 0 ≤ i ∧ i < (n : Int)) (hi : Rg i) {σ' : Hp} (he9 : σ' = (hup σ s0 j0 i.toNat x)) (hd : decode cc pc = .ok (.iastore, 1)) (hq : pc + 1 = q) (kk : VV p l e R s m args below meth c Q G A cells slots nL σ' q lv st) : VV p l e R s m args below meth c Q G A cells slots nL σ pc lv (iv x :: iv i :: rf G s0 j0 :: st) := by
  subst hq
  intro H locs ls hl hP hS
  subst he9
  obtain ⟨q0, hq0⟩ := wld_at hI
  subst ha
  refine va_iast hC.1 hC.2.1 hC.2.2.2.2.2.1.1 hP (wld_D hC.2.2.2.2.2.2.1 hC.2.2.2.2.2.2.2) hS q0 0 (cA := G.2.2.1) (n := alen s0) (f := fun k => Int32.ofInt (σ s0 j0 k)) (by rw [wld_k hq0, ent_ai (by omega)]; rfl) rfl (oi_in hi hb0) hd (fun H1 locs1 hP1 _ hS1 => kk H1 locs1 ls hl ?_ hS1)
  rw [oi_nat hb0.1 hi] at hP1
  rw [wld_set (σ' := hup σ s0 j0 i.toNat x) hq0 ?_ (fun s' j' h => by funext k'; unfold hup; rw [if_neg (fun z => h ⟨z.1, z.2.1⟩)])] at hP1
  · exact hP1
  · rw [ent_ai (by omega)]
    unfold ai
    congr 4
    funext k'
    unfold upd hup
    by_cases hk : k' = i.toNat
    · rw [if_pos hk, if_pos ⟨rfl, rfl, hk⟩]
    · rw [if_neg hk, if_neg (fun z => hk z.2.2)]
theorem V_alen (hC : CX p s m args c cc nL own Ts G A) {s0 j0 : Nat} {n : Nat} (hI : InD s0 j0) (ha : alen s0 = n) (h0 : 0 < n) (hd : decode cc pc = .ok (.arraylength, 1)) (hq : pc + 1 = q) (kk : VV p l e R s m args below meth c Q G A cells slots nL σ q lv (iv (n : Int) :: st)) : VV p l e R s m args below meth c Q G A cells slots nL σ pc lv (rf G s0 j0 :: st) := by
  subst hq
  intro H locs ls hl hP hS
  obtain ⟨q0, hq0⟩ := wld_at hI
  subst ha
  exact va_alen hC.1 hC.2.1 hC.2.2.2.2.2.1.1 hP q0 0 (cA := G.2.2.1) (x := (alen s0, .inl (fun k => Int32.ofInt (σ s0 j0 k)))) (by rw [wld_k hq0, ent_ai h0]; rfl) (ty := .int) rfl (v := Int32.ofInt (alen s0 : Int)) (by rw [Int32.ofInt_eq_ofNat]) hd (kk H locs ls hl hP hS)
theorem V_aald9 (hC : CX p s m args c cc nL own Ts G A) {i : Int} (hb0 : 0 ≤ i ∧ i < 24) (hi : Rg i) (hd : decode cc pc = .ok (.aaload, 1)) (hq : pc + 1 = q) (kk : VV p l e R s m args below meth c Q G A cells slots nL σ q lv (rf G 5 (4 + i.toNat) :: st)) : VV p l e R s m args below meth c Q G A cells slots nL σ pc lv (iv i :: rf G 9 0 :: st) := by
  subst hq
  intro H locs ls hl hP hS
  obtain ⟨q0, hq0⟩ := wld_at (s := 9) (j := 0) ⟨by decide, by decide⟩
  have hk := kk H locs ls hl hP hS
  refine va_aldq hC.1 hC.2.1 hC.2.2.2.2.2.1.1 hP q0 3 (C := "BarkNames$Wood") (wld_k hq0) rfl (oi_in (n := 24) hi hb0) hd ?_
  rw [oi_nat hb0.1 hi]
  exact hk
theorem V_alen9 (hC : CX p s m args c cc nL own Ts G A)  (hd : decode cc pc = .ok (.arraylength, 1)) (hq : pc + 1 = q) (kk : VV p l e R s m args below meth c Q G A cells slots nL σ q lv (iv 24 :: st)) : VV p l e R s m args below meth c Q G A cells slots nL σ pc lv (rf G 9 0 :: st) := by
  subst hq
  intro H locs ls hl hP hS
  obtain ⟨q0, hq0⟩ := wld_at (s := 9) (j := 0) ⟨by decide, by decide⟩
  exact va_alen hC.1 hC.2.1 hC.2.2.2.2.2.1.1 hP q0 3 (wld_k hq0) (ty := .object "BarkNames$Wood") rfl (v := Int32.ofInt 24) (show Int32.ofNat 24 = Int32.ofInt 24 by decide) hd (kk H locs ls hl hP hS)
theorem V_aald20 (hC : CX p s m args c cc nL own Ts G A) {i : Int} (hb0 : 0 ≤ i ∧ i < 8) (hi : Rg i) (hd : decode cc pc = .ok (.aaload, 1)) (hq : pc + 1 = q) (kk : VV p l e R s m args below meth c Q G A cells slots nL σ q lv (rf G 3 i.toNat :: st)) : VV p l e R s m args below meth c Q G A cells slots nL σ pc lv (iv i :: rf G 20 0 :: st) := by
  subst hq
  intro H locs ls hl hP hS
  obtain ⟨q0, hq0⟩ := wld_at (s := 20) (j := 0) ⟨by decide, by decide⟩
  have hk := kk H locs ls hl hP hS
  refine va_aldq hC.1 hC.2.1 hC.2.2.2.2.2.1.1 hP q0 2 (C := "BarkNames$Row") (wld_k hq0) rfl (oi_in (n := 8) hi hb0) hd ?_
  rw [oi_nat hb0.1 hi]
  exact hk
theorem V_alen20 (hC : CX p s m args c cc nL own Ts G A)  (hd : decode cc pc = .ok (.arraylength, 1)) (hq : pc + 1 = q) (kk : VV p l e R s m args below meth c Q G A cells slots nL σ q lv (iv 8 :: st)) : VV p l e R s m args below meth c Q G A cells slots nL σ pc lv (rf G 20 0 :: st) := by
  subst hq
  intro H locs ls hl hP hS
  obtain ⟨q0, hq0⟩ := wld_at (s := 20) (j := 0) ⟨by decide, by decide⟩
  exact va_alen hC.1 hC.2.1 hC.2.2.2.2.2.1.1 hP q0 2 (wld_k hq0) (ty := .object "BarkNames$Row") rfl (v := Int32.ofInt 8) (show Int32.ofNat 8 = Int32.ofInt 8 by decide) hd (kk H locs ls hl hP hS)
theorem V_aald21 (hC : CX p s m args c cc nL own Ts G A) {i : Int} (hb0 : 0 ≤ i ∧ i < 2) (hi : Rg i) (hd : decode cc pc = .ok (.aaload, 1)) (hq : pc + 1 = q) (kk : VV p l e R s m args below meth c Q G A cells slots nL σ q lv (rf G 5 (2 + i.toNat) :: st)) : VV p l e R s m args below meth c Q G A cells slots nL σ pc lv (iv i :: rf G 21 0 :: st) := by
  subst hq
  intro H locs ls hl hP hS
  obtain ⟨q0, hq0⟩ := wld_at (s := 21) (j := 0) ⟨by decide, by decide⟩
  have hk := kk H locs ls hl hP hS
  refine va_aldq hC.1 hC.2.1 hC.2.2.2.2.2.1.1 hP q0 3 (C := "BarkNames$Wood") (wld_k hq0) rfl (oi_in (n := 2) hi hb0) hd ?_
  rw [oi_nat hb0.1 hi]
  exact hk
theorem V_alen21 (hC : CX p s m args c cc nL own Ts G A)  (hd : decode cc pc = .ok (.arraylength, 1)) (hq : pc + 1 = q) (kk : VV p l e R s m args below meth c Q G A cells slots nL σ q lv (iv 2 :: st)) : VV p l e R s m args below meth c Q G A cells slots nL σ pc lv (rf G 21 0 :: st) := by
  subst hq
  intro H locs ls hl hP hS
  obtain ⟨q0, hq0⟩ := wld_at (s := 21) (j := 0) ⟨by decide, by decide⟩
  exact va_alen hC.1 hC.2.1 hC.2.2.2.2.2.1.1 hP q0 3 (wld_k hq0) (ty := .object "BarkNames$Wood") rfl (v := Int32.ofInt 2) (show Int32.ofNat 2 = Int32.ofInt 2 by decide) hd (kk H locs ls hl hP hS)
theorem V_zald31 (hC : CX p s m args c cc nL own Ts G A) {i : Int} (hb0 : 0 ≤ i ∧ i < 2) (hi : Rg i) (hd : decode cc pc = .ok (.baload, 1)) (hq : pc + 1 = q) (kk : VV p l e R s m args below meth c Q G A cells slots nL σ q lv (iv (σ 31 0 i.toNat) :: st)) : VV p l e R s m args below meth c Q G A cells slots nL σ pc lv (iv i :: rf G 31 0 :: st) := by
  subst hq
  intro H locs ls hl hP hS
  obtain ⟨q0, hq0⟩ := wld_at (s := 31) (j := 0) ⟨by decide, by decide⟩
  have hk := kk H locs ls hl hP hS
  refine va_zald hC.1 hC.2.1 hC.2.2.2.2.2.1.1 hP q0 1 (f := fun k => Int32.ofInt (σ 31 0 k)) (wld_k hq0) rfl (oi_in (n := 2) hi hb0) hd ?_
  show W p l e R s m args below meth c H locs cells slots Q (F0 m (pc + 1) ls (Value.int (Int32.ofInt (σ 31 0 (Int32.ofInt i).toNatClampNeg)) :: st))
  rw [oi_nat hb0.1 hi]
  exact hk
theorem V_zast31 (hC : CX p s m args c cc nL own Ts G A) {i x : Int} (hb0 : 0 ≤ i ∧ i < 2) (hi : Rg i) (hx : x = 0 ∨ x = 1) {σ' : Hp} (he9 : σ' = (hup σ 31 0 i.toNat x)) (hd : decode cc pc = .ok (.bastore, 1)) (hq : pc + 1 = q) (kk : VV p l e R s m args below meth c Q G A cells slots nL σ' q lv st) : VV p l e R s m args below meth c Q G A cells slots nL σ pc lv (iv x :: iv i :: rf G 31 0 :: st) := by
  subst hq
  intro H locs ls hl hP hS
  subst he9
  obtain ⟨q0, hq0⟩ := wld_at (s := 31) (j := 0) ⟨by decide, by decide⟩
  refine va_zast hC.1 hC.2.1 hC.2.2.2.2.2.1.1 hP (wld_D hC.2.2.2.2.2.2.1 hC.2.2.2.2.2.2.2) hS q0 1 (f := fun k => Int32.ofInt (σ 31 0 k)) (wld_k hq0) rfl (oi_in (n := 2) hi hb0) hd (fun H1 locs1 hP1 _ hS1 => kk H1 locs1 ls hl ?_ hS1)
  rw [oi_nat hb0.1 hi] at hP1
  rw [show vp_nar .boolean (Int32.ofInt x) = Int32.ofInt x by rcases hx with rfl | rfl <;> decide] at hP1
  rw [wld_set (σ' := hup σ 31 0 i.toNat x) hq0 ?_ (fun s' j' h => by funext k'; unfold hup; rw [if_neg (fun z => h ⟨z.1, z.2.1⟩)])] at hP1
  · exact hP1
  · show _ = Sum.inl _
    congr 4
    funext k'
    unfold upd hup
    by_cases hk : k' = i.toNat
    · rw [if_pos hk, if_pos ⟨rfl, rfl, hk⟩]
    · rw [if_neg hk, if_neg (fun z => hk z.2.2)]
theorem V_gett (hC : CX p s m args c cc nL own Ts G A) {ix : Nat} (hlk : Cond.fieldLink own ix "BarkNames" "IS_TOO" "[I" ∈ Ts) (hd : decode cc pc = .ok (.getstatic ix, 3)) (hq : pc + 3 = q) (kk : VV p l e R s m args below meth c Q G A cells slots nL σ q lv (.ref (tblA G) :: st)) : VV p l e R s m args below meth c Q G A cells slots nL σ pc lv st := by
  subst hq
  intro H locs ls hl hP hS
  exact va_gets hC.1 hC.2.1 hC.2.2.2.2.2.1.2.2.1 hS hC.2.2.2.1 (hC.2.2.2.2.1 _ hlk) (fun _ h => h) hd (kk H locs ls hl hP hS)
theorem V_tlen (hC : CX p s m args c cc nL own Ts G A)  (hd : decode cc pc = .ok (.arraylength, 1)) (hq : pc + 1 = q) (kk : VV p l e R s m args below meth c Q G A cells slots nL σ q lv (iv 6 :: st)) : VV p l e R s m args below meth c Q G A cells slots nL σ pc lv (.ref (tblA G) :: st) := by
  subst hq
  intro H locs ls hl hP hS
  exact va_tlen hC.1 hC.2.1 hC.2.2.2.2.2.1.2.2.2 hS (v := Int32.ofInt 6) (by decide) hd (kk H locs ls hl hP hS)
theorem V_tld (hC : CX p s m args c cc nL own Ts G A) {i : Int} (hb0 : 0 ≤ i ∧ i < 6) (hi : Rg i) (hd : decode cc pc = .ok (.iaload, 1)) (hq : pc + 1 = q) (kk : VV p l e R s m args below meth c Q G A cells slots nL σ q lv (iv (isToo i.toNat) :: st)) : VV p l e R s m args below meth c Q G A cells slots nL σ pc lv (iv i :: .ref (tblA G) :: st) := by
  subst hq
  intro H locs ls hl hP hS
  exact va_ti hC.1 hC.2.1 hC.2.2.2.2.2.1.2.2.2 hS (oi_in (n := 6) hi hb0) (by rw [oi_nat hb0.1 hi]) hd (kk H locs ls hl hP hS)
theorem V_mmax (hC : CX p s m args c cc nL own Ts G A) {x y : Int} {ix : Nat} (hx : Rg x) (hy : Rg y) (h1 : Cond.methodLink own ix Lib.Math.max.name ∈ Ts) (h2 : Cond.static Lib.Math.max.name ∈ Ts) (h3 : Cond.initialized "java/lang/Math" ∈ Ts) (h4 : Cond.code Lib.Math.max.name Lib.Math.max.code 2 (some .int) ∈ Ts) (hR : 1 ≤ R.frames ∧ (st.map fun v => v.category).sum + 13 ≤ R.locals ∧ cells ≤ R.cells ∧ slots ≤ R.slots) (hd : decode cc pc = .ok (.invokestatic ix, 3)) (hq : pc + 3 = q) (kk : VV p l e R s m args below meth c Q G A cells slots nL σ q lv (iv (qmax x y) :: st)) : VV p l e R s m args below meth c Q G A cells slots nL σ pc lv (iv y :: iv x :: st) := by
  subst hq
  intro H locs ls hl hP hS
  have hk := (kk H locs ls hl hP hS)
  unfold iv at hk ⊢
  rw [oi_max hx hy] at hk
  exact va_mmax hC.1 hC.2.1 (by rw [hC.2.2.1]; exact hl.1.symm) hC.2.2.2.1 (hC.2.2.2.2.1 _ h1) (hC.2.2.2.2.1 _ h2) (hC.2.2.2.2.1 _ h3) (hC.2.2.2.2.1 _ h4) hR.1 hR.2.1 hR.2.2.1 hR.2.2.2 hd hk
theorem V_mmin (hC : CX p s m args c cc nL own Ts G A) {x y : Int} {ix : Nat} (hx : Rg x) (hy : Rg y) (h1 : Cond.methodLink own ix Lib.Math.min.name ∈ Ts) (h2 : Cond.static Lib.Math.min.name ∈ Ts) (h3 : Cond.initialized "java/lang/Math" ∈ Ts) (h4 : Cond.code Lib.Math.min.name Lib.Math.min.code 2 (some .int) ∈ Ts) (hR : 1 ≤ R.frames ∧ (st.map fun v => v.category).sum + 13 ≤ R.locals ∧ cells ≤ R.cells ∧ slots ≤ R.slots) (hd : decode cc pc = .ok (.invokestatic ix, 3)) (hq : pc + 3 = q) (kk : VV p l e R s m args below meth c Q G A cells slots nL σ q lv (iv (qmin x y) :: st)) : VV p l e R s m args below meth c Q G A cells slots nL σ pc lv (iv y :: iv x :: st) := by
  subst hq
  intro H locs ls hl hP hS
  have hk := (kk H locs ls hl hP hS)
  unfold iv at hk ⊢
  rw [oi_min hx hy] at hk
  exact va_mmin hC.1 hC.2.1 (by rw [hC.2.2.1]; exact hl.1.symm) hC.2.2.2.1 (hC.2.2.2.2.1 _ h1) (hC.2.2.2.2.1 _ h2) (hC.2.2.2.2.1 _ h3) (hC.2.2.2.2.1 _ h4) hR.1 hR.2.1 hR.2.2.1 hR.2.2.2 hd hk
theorem V_mabs (hC : CX p s m args c cc nL own Ts G A) {x : Int} {ix : Nat} (hx : Rg x) (h1 : Cond.methodLink own ix Lib.Math.abs.name ∈ Ts) (h2 : Cond.static Lib.Math.abs.name ∈ Ts) (h3 : Cond.initialized "java/lang/Math" ∈ Ts) (h4 : Cond.code Lib.Math.abs.name Lib.Math.abs.code 1 (some .int) ∈ Ts) (hR : 1 ≤ R.frames ∧ (st.map fun v => v.category).sum + 13 ≤ R.locals ∧ cells ≤ R.cells ∧ slots ≤ R.slots) (hd : decode cc pc = .ok (.invokestatic ix, 3)) (hq : pc + 3 = q) (kk : VV p l e R s m args below meth c Q G A cells slots nL σ q lv (iv (qabs x) :: st)) : VV p l e R s m args below meth c Q G A cells slots nL σ pc lv (iv x :: st) := by
  subst hq
  intro H locs ls hl hP hS
  have hk := (kk H locs ls hl hP hS)
  unfold iv at hk ⊢
  rw [oi_abs hx] at hk
  exact va_mabs hC.1 hC.2.1 (by rw [hC.2.2.1]; exact hl.1.symm) hC.2.2.2.1 (hC.2.2.2.2.1 _ h1) (hC.2.2.2.2.1 _ h2) (hC.2.2.2.2.1 _ h3) (hC.2.2.2.2.1 _ h4) hR.1 hR.2.1 hR.2.2.1 hR.2.2.2 hd hk
theorem V_acopy (hC : CX p s m args c cc nL own Ts G A) {s1 j1 s2 j2 : Nat} {sp dp n : Int} {ix n1 n2 : Nat} (hI1 : InD s1 j1) (hI2 : InD s2 j2) (ha1 : alen s1 = n1) (ha2 : alen s2 = n2) (h01 : 0 < n1) (h02 : 0 < n2) (hb0 : 0 ≤ sp ∧ 0 ≤ dp ∧ 0 ≤ n ∧ sp + n ≤ (n1 : Int) ∧ dp + n ≤ (n2 : Int)) (hsp : Rg sp) (hdp : Rg dp) (hn : Rg n) (h1 : Cond.methodLink own ix arraycopyName ∈ Ts) (h2 : Cond.native arraycopyName ∈ Ts) (h3 : Cond.static arraycopyName ∈ Ts) (h4 : Cond.initialized "java/lang/System" ∈ Ts) (hR : 1 ≤ R.frames ∧ (st.map fun v => v.category).sum + (nativeFrameWords "java/lang/System" "arraycopy" 5 + 11) ≤ R.locals) {σ' : Hp} (he9 : σ' = (hcp σ s1 j1 sp.toNat s2 j2 dp.toNat n.toNat)) (hd : decode cc pc = .ok (.invokestatic ix, 3)) (hq : pc + 3 = q) (kk : VV p l e R s m args below meth c Q G A cells slots nL σ' q lv st) : VV p l e R s m args below meth c Q G A cells slots nL σ pc lv (iv n :: iv dp :: rf G s2 j2 :: iv sp :: rf G s1 j1 :: st) := by
  subst hq
  intro H locs ls hl hP hS
  subst he9
  obtain ⟨q1, hq1⟩ := wld_at hI1
  obtain ⟨q2, hq2⟩ := wld_at hI2
  subst ha1
  subst ha2
  have hng : ∀ {z : Int}, Rg z → 0 ≤ z → ¬ Int32.ofInt z < 0 := fun hz h0 h => by have h5 := (oi_lt hz Rg_0).mp h; omega
  have e1 := oi_nat hb0.1 hsp
  have e2 := oi_nat hb0.2.1 hdp
  have e3 := oi_nat hb0.2.2.1 hn
  refine va_copyi hC.1 hC.2.1 (by rw [hC.2.2.1]; exact hl.1.symm) hC.2.2.2.1 (hC.2.2.2.2.1 _ h1) (hC.2.2.2.2.1 _ h2) (hC.2.2.2.2.1 _ h3) (hC.2.2.2.2.1 _ h4) hC.2.2.2.2.2.1.1 hP (wld_D hC.2.2.2.2.2.2.1 hC.2.2.2.2.2.2.2) hS q1 q2 0 0 (c0 := G.2.2.1) (c1 := G.2.2.1) (n0 := alen s1) (n1 := alen s2) (f := fun k => Int32.ofInt (σ s1 j1 k)) (g := fun k => Int32.ofInt (σ s2 j2 k)) (ty := .int) (by rw [wld_k hq1, ent_ai h01]; rfl) (by rw [wld_k hq2, ent_ai h02]; rfl) rfl rfl rfl (hng hsp hb0.1) (hng hdp hb0.2.1) (hng hn hb0.2.2.1) (by rw [e1, e3]; omega) (by rw [e2, e3]; omega) (fun _ _ => rfl) hR.1 hR.2 hd (fun H1 locs1 hP1 _ hS1 => kk H1 locs1 ls hl ?_ hS1)
  rw [e1, e2, e3] at hP1
  rw [wld_set (σ' := hcp σ s1 j1 sp.toNat s2 j2 dp.toNat n.toNat) hq2 ?_ (fun s' j' h => by funext k'; unfold hcp; rw [if_neg (fun z => h z.1)])] at hP1
  · exact hP1
  · rw [ent_ai h02]
    unfold ai
    congr 4
    funext k'
    unfold va_cpy hcp
    by_cases hk : dp.toNat ≤ k' ∧ k' < dp.toNat + n.toNat
    · rw [if_pos hk, if_pos ⟨⟨rfl, rfl⟩, hk⟩]
    · rw [if_neg hk, if_neg (fun z => hk z.2)]
end ROWS
section CALLS
variable {p : Program} {l : Launch} {e : Env} {R : Room} {s : State} {m : MethodId} {args : Array Value} {below : List Frame} {meth : Method} {c : Code} {Q : State → Prop} {G : GT} {A : Nat → Prop} {cells slots nL : Nat} {σ : Hp} {pc q : Nat} {lv : List (Nat × Value)} {st : List Value} {cc : ByteArray} {own : String} {Ts : List Cond}
variable {y : MethodName} {ws ws' : List Cond} {rm : Room} {n : Nat} {bytes : ByteArray} {maxL ix : Nat} {ret : Option FieldType} {Cn host : String} {s0 j0 : Nat} {As : List Value} {x0 : Int} {σ0 : Hp} {st9 : List Value}
theorem V_cvi (hC : CX p s m args c cc nL own Ts G A) (ct : Cti l G y ws rm (rf G s0 j0 :: As) σ x0 σ0) (cw : CallW R s args own Cn ix y bytes maxL ret ws rm 0 0 n) (hcl : ∃ z, vwCl[s0]? = some z ∧ z.1 = Cn) (hI : InD s0 j0) (he : ∀ τ : Hp, ∃ fs, ent G τ s0 j0 = .inr (s0, fs)) (hn : As.length = n) (hst : st9 = As.reverse ++ rf G s0 j0 :: st) (hW : (st.map fun v => v.category).sum ≤ 8) (hd : decode cc pc = .ok (.invokevirtual ix, 3)) (hq : pc + 3 = q) (hce : cells ≤ R.cells ∧ slots ≤ R.slots) (kk : Rg x0 → RgS σ0 → VV p l e R s m args below meth c Q G A cells slots nL σ0 q lv (iv x0 :: st)) : VV p l e R s m args below meth c Q G A cells slots nL σ pc lv st9 := by
  subst hq
  subst hst
  intro H locs ls hl hP hS
  obtain ⟨q0, hq0⟩ := wld_at hI
  obtain ⟨fs, he⟩ := he σ
  obtain ⟨z, hc1, hc2⟩ := hcl
  have hrecv := va_recv (q0 := q0) hC.2.2.2.2.2.1.1 hP hc1 (by rw [← he]; exact wld_k hq0)
  rw [hc2] at hrecv
  refine va_calli (va_runV (As := As) (rest := st) ⟨hC.1, hC.2.1, hC.2.2.1, hC.2.2.2.1, hC.2.2.2.2.1⟩ ct cw ⟨Wd.blind, hrecv, fun U hU hW => ⟨rfl, vwd hC.2.2.2.2.2.1 hC.2.2.2.2.2.2.2 hP hS hU hW⟩⟩ rfl hn hl.1 rfl (lv_room hW) hd ⟨hce.1, hce.2⟩) hS (fun q _ h => hC.2.2.2.2.2.2.2 q h) hC.2.2.2.2.2.2.2 (fun r u t H1 locs1 ht hvm hw hB hz1 hk1 hS1 => ?_)
  obtain ⟨⟨rfl, h1, h2⟩, rfl⟩ := hw
  exact kk h1 h2 H1 locs1 ls hl (by rw [← ht]; exact hB) hS1
theorem V_cvv (hC : CX p s m args c cc nL own Ts G A) (ct : Ctv l G y ws rm (rf G s0 j0 :: As) σ σ0) (cw : CallW R s args own Cn ix y bytes maxL ret ws rm 0 0 n) (hcl : ∃ z, vwCl[s0]? = some z ∧ z.1 = Cn) (hI : InD s0 j0) (he : ∀ τ : Hp, ∃ fs, ent G τ s0 j0 = .inr (s0, fs)) (hn : As.length = n) (hst : st9 = As.reverse ++ rf G s0 j0 :: st) (hW : (st.map fun v => v.category).sum ≤ 8) (hd : decode cc pc = .ok (.invokevirtual ix, 3)) (hq : pc + 3 = q) (hce : cells ≤ R.cells ∧ slots ≤ R.slots) (kk : RgS σ0 → VV p l e R s m args below meth c Q G A cells slots nL σ0 q lv st) : VV p l e R s m args below meth c Q G A cells slots nL σ pc lv st9 := by
  subst hq
  subst hst
  intro H locs ls hl hP hS
  obtain ⟨q0, hq0⟩ := wld_at hI
  obtain ⟨fs, he⟩ := he σ
  obtain ⟨z, hc1, hc2⟩ := hcl
  have hrecv := va_recv (q0 := q0) hC.2.2.2.2.2.1.1 hP hc1 (by rw [← he]; exact wld_k hq0)
  rw [hc2] at hrecv
  refine va_callv (va_runV (As := As) (rest := st) ⟨hC.1, hC.2.1, hC.2.2.1, hC.2.2.2.1, hC.2.2.2.2.1⟩ ct cw ⟨Wd.blind, hrecv, fun U hU hW => ⟨rfl, vwd hC.2.2.2.2.2.1 hC.2.2.2.2.2.2.2 hP hS hU hW⟩⟩ rfl hn hl.1 rfl (lv_room hW) hd ⟨hce.1, hce.2⟩) hS (fun q _ h => hC.2.2.2.2.2.2.2 q h) hC.2.2.2.2.2.2.2 (fun u t H1 locs1 ht hvm hw hB hz1 hk1 hS1 => ?_)
  obtain ⟨h2, rfl⟩ := hw
  exact kk h2 H1 locs1 ls hl (by rw [← ht]; exact hB) hS1
theorem V_csi (hC : CX p s m args c cc nL own Ts G A) (ct : Cti l G y ws rm As σ x0 σ0) (cw : CallB R s args own ix y bytes maxL ret ws rm 0 0 n ∧ (Cond.static y).before args s = true) (hn : As.length = n) (hst : st9 = As.reverse ++ st) (hW : (st.map fun v => v.category).sum ≤ 8) (hd : decode cc pc = .ok (.invokestatic ix, 3)) (hq : pc + 3 = q) (hce : cells ≤ R.cells ∧ slots ≤ R.slots) (kk : Rg x0 → RgS σ0 → VV p l e R s m args below meth c Q G A cells slots nL σ0 q lv (iv x0 :: st)) : VV p l e R s m args below meth c Q G A cells slots nL σ pc lv st9 := by
  subst hq
  subst hst
  intro H locs ls hl hP hS
  refine va_calli (va_runS (As := As) (rest := st) ⟨hC.1, hC.2.1, hC.2.2.1, hC.2.2.2.1, hC.2.2.2.2.1⟩ ct cw ⟨Wd.blind, fun U hU hW => ⟨rfl, vwd hC.2.2.2.2.2.1 hC.2.2.2.2.2.2.2 hP hS hU hW⟩⟩ rfl hn hl.1 rfl (lv_room hW) hd ⟨hce.1, hce.2⟩) hS (fun q _ h => hC.2.2.2.2.2.2.2 q h) hC.2.2.2.2.2.2.2 (fun r u t H1 locs1 ht hvm hw hB hz1 hk1 hS1 => ?_)
  obtain ⟨⟨rfl, h1, h2⟩, rfl⟩ := hw
  exact kk h1 h2 H1 locs1 ls hl (by rw [← ht]; exact hB) hS1
theorem V_csv (hC : CX p s m args c cc nL own Ts G A) (ct : Ctv l G y ws rm As σ σ0) (cw : CallB R s args own ix y bytes maxL ret ws rm 0 0 n ∧ (Cond.static y).before args s = true) (hn : As.length = n) (hst : st9 = As.reverse ++ st) (hW : (st.map fun v => v.category).sum ≤ 8) (hd : decode cc pc = .ok (.invokestatic ix, 3)) (hq : pc + 3 = q) (hce : cells ≤ R.cells ∧ slots ≤ R.slots) (kk : RgS σ0 → VV p l e R s m args below meth c Q G A cells slots nL σ0 q lv st) : VV p l e R s m args below meth c Q G A cells slots nL σ pc lv st9 := by
  subst hq
  subst hst
  intro H locs ls hl hP hS
  refine va_callv (va_runS (As := As) (rest := st) ⟨hC.1, hC.2.1, hC.2.2.1, hC.2.2.2.1, hC.2.2.2.2.1⟩ ct cw ⟨Wd.blind, fun U hU hW => ⟨rfl, vwd hC.2.2.2.2.2.1 hC.2.2.2.2.2.2.2 hP hS hU hW⟩⟩ rfl hn hl.1 rfl (lv_room hW) hd ⟨hce.1, hce.2⟩) hS (fun q _ h => hC.2.2.2.2.2.2.2 q h) hC.2.2.2.2.2.2.2 (fun u t H1 locs1 ht hvm hw hB hz1 hk1 hS1 => ?_)
  obtain ⟨h2, rfl⟩ := hw
  exact kk h2 H1 locs1 ls hl (by rw [← ht]; exact hB) hS1
theorem V_cni (hC : CX p s m args c cc nL own Ts G A) (ct : Cti l G y ws rm As σ x0 σ0) (cw : va_CN R s args own ix y host bytes maxL ret ws rm 0 0 n ∧ (Cond.static y).before args s = true ∧ True) (hn : As.length = n) (hst : st9 = As.reverse ++ st) (hW : (st.map fun v => v.category).sum ≤ 8) (hd : decode cc pc = .ok (.invokestatic ix, 3)) (hq : pc + 3 = q) (hce : cells ≤ R.cells ∧ slots ≤ R.slots) (kk : Rg x0 → RgS σ0 → VV p l e R s m args below meth c Q G A cells slots nL σ0 q lv (iv x0 :: st)) : VV p l e R s m args below meth c Q G A cells slots nL σ pc lv st9 := by
  subst hq
  subst hst
  intro H locs ls hl hP hS
  refine va_calli (va_runSN (As := As) (rest := st) ⟨hC.1, hC.2.1, hC.2.2.1, hC.2.2.2.1, hC.2.2.2.2.1⟩ ct cw ⟨Wd.blind, fun U hU hW => ⟨rfl, vwd hC.2.2.2.2.2.1 hC.2.2.2.2.2.2.2 hP hS hU hW⟩⟩ rfl hn hl.1 rfl (lv_room hW) hd ⟨hce.1, hce.2⟩) hS (fun q _ h => hC.2.2.2.2.2.2.2 q h) hC.2.2.2.2.2.2.2 (fun r u t H1 locs1 ht hvm hw hB hz1 hk1 hS1 => ?_)
  obtain ⟨⟨rfl, h1, h2⟩, rfl⟩ := hw
  exact kk h1 h2 H1 locs1 ls hl (by rw [← ht]; exact hB) hS1
end CALLS
def QI (G : GT) (x0 : Int) (σ0 : Hp) : Array Value → State → Outcome → State → Prop := va_Qi (fun (r : Int32) (u : Hp) => (r = Int32.ofInt x0 ∧ Rg x0 ∧ RgS σ0) ∧ u = σ0) (fun u t => va_P G.1 vwCl (wld G u) t.heap) (AA G)
def QV (G : GT) (σ0 : Hp) : Array Value → State → Outcome → State → Prop := va_Qv (fun (u : Hp) => RgS σ0 ∧ u = σ0) (fun u t => va_P G.1 vwCl (wld G u) t.heap) (AA G)
section ENDS
variable {p : Program} {l : Launch} {e : Env} {R : Room} {s : State} {m : MethodId} {args : Array Value} {below : List Frame} {meth : Method} {c : Code} {G : GT} {cells slots nL : Nat} {σ : Hp} {pc : Nat} {lv : List (Nat × Value)} {cc : ByteArray} {own : String} {Ts : List Cond} {x x0 : Int} {σ0 : Hp}
theorem V_iret (hC : CX p s m args c cc nL own Ts G (AA G)) (hr : meth.sig.returnType = some .int) (hlk : meth.locks = false) (hx : x = x0) (hσ : σ = σ0) (h1 : Rg x) (h2 : RgS σ) (hd : decode cc pc = .ok (.ireturn, 1)) : VV p l e R s m args below meth c (MQ below (QI G x0 σ0) args s cells slots (AA G)) G (AA G) cells slots nL σ pc lv [iv x] := by
  subst hx
  subst hσ
  intro H locs ls hl hP hS
  exact W.iret (v := Int32.ofInt x) hC.1 hC.2.1 hr (fun t ht hW => ⟨⟨_, σ, rfl, ⟨⟨rfl, h1, h2⟩, rfl⟩, by show va_P _ _ _ t.heap; rw [ht]; exact hP⟩, hS.F ht⟩) hS.2.2 hd hlk
theorem V_zret (hC : CX p s m args c cc nL own Ts G (AA G)) (hr : meth.sig.returnType = some .boolean) (hlk : meth.locks = false) (hz : x = 0 ∨ x = 1) (hx : x = x0) (hσ : σ = σ0) (h2 : RgS σ) (hd : decode cc pc = .ok (.ireturn, 1)) : VV p l e R s m args below meth c (MQ below (QI G x0 σ0) args s cells slots (AA G)) G (AA G) cells slots nL σ pc lv [iv x] := by
  subst hx
  subst hσ
  intro H locs ls hl hP hS
  exact W.zret (v := Int32.ofInt x) (ty := .boolean) hC.1 hC.2.1 hr (by rcases hz with rfl | rfl <;> decide) (fun t ht hW => ⟨⟨_, σ, rfl, ⟨⟨rfl, by rcases hz with rfl | rfl <;> exact Rg_c rfl, h2⟩, rfl⟩, by show va_P _ _ _ t.heap; rw [ht]; exact hP⟩, hS.F ht⟩) hS.2.2 hd hlk
theorem V_vret (hC : CX p s m args c cc nL own Ts G (AA G)) (hr : meth.sig.returnType = none) (hlk : meth.locks = false) (hσ : σ = σ0) (h2 : RgS σ) (hd : decode cc pc = .ok (.return_, 1)) : VV p l e R s m args below meth c (MQ below (QV G σ0) args s cells slots (AA G)) G (AA G) cells slots nL σ pc lv [] := by
  subst hσ
  intro H locs ls hl hP hS
  exact W.vret hC.1 hC.2.1 hr (fun t ht hW => ⟨⟨σ, rfl, ⟨h2, rfl⟩, by show va_P _ _ _ t.heap; rw [ht]; exact hP⟩, hS.F ht⟩) hS.2.2 hd hlk
end ENDS
theorem Cti_start {l : Launch} {G : GT} {y : MethodName} {ws ws' : List Cond} {rm : Room} {cc : ByteArray} {maxL : Nat} {ret : Option FieldType} {av : List Value} {lv : List (Nat × Value)} {σ : Hp} {x0 : Int} {σ0 : Hp} (hy : plainName y.cls = true) (hw : ws = Cond.code y cc maxL ret :: ws') (hG : GI G) (hlen : (lg_sl av).length ≤ maxL) (hlv : lv_args 0 av = lv)
    (body : ∀ p e s m args below meth c, CX p s m args c cc maxL y.cls ws G (AA G) → meth.sig.returnType = ret → meth.locks = false → VV p l e (headSpec ws rm).room s m args below meth c (MQ below (QI G x0 σ0) args s 0 0 (AA G)) G (AA G) 0 0 maxL σ 0 lv []) : Cti l G y ws rm av σ x0 σ0 := by
  refine Met.ofW hy hw ?_
  intro p e s m args below meth c s₁ B hml hv
  obtain ⟨rfl, hP, hGW⟩ := hv
  subst hlv
  have hb := body p e s m av.toArray below meth c ⟨B.exec, B.bytes, hml, findClass_of_methodNamed B.named, atoms_spec (ws := ws) B.pre, hGW, hG, fun q h => h⟩ B.returns B.notSynchronized s.heap [] _ (lv_entry av hlen) hP va_S.rf
  rw [lg_entry_eq]
  exact hb
theorem Ctv_start {l : Launch} {G : GT} {y : MethodName} {ws ws' : List Cond} {rm : Room} {cc : ByteArray} {maxL : Nat} {ret : Option FieldType} {av : List Value} {lv : List (Nat × Value)} {σ : Hp} {σ0 : Hp} (hy : plainName y.cls = true) (hw : ws = Cond.code y cc maxL ret :: ws') (hG : GI G) (hlen : (lg_sl av).length ≤ maxL) (hlv : lv_args 0 av = lv)
    (body : ∀ p e s m args below meth c, CX p s m args c cc maxL y.cls ws G (AA G) → meth.sig.returnType = ret → meth.locks = false → VV p l e (headSpec ws rm).room s m args below meth c (MQ below (QV G σ0) args s 0 0 (AA G)) G (AA G) 0 0 maxL σ 0 lv []) : Ctv l G y ws rm av σ σ0 := by
  refine Met.ofW hy hw ?_
  intro p e s m args below meth c s₁ B hml hv
  obtain ⟨rfl, hP, hGW⟩ := hv
  subst hlv
  have hb := body p e s m av.toArray below meth c ⟨B.exec, B.bytes, hml, findClass_of_methodNamed B.named, atoms_spec (ws := ws) B.pre, hGW, hG, fun q h => h⟩ B.returns B.notSynchronized s.heap [] _ (lv_entry av hlen) hP va_S.rf
  rw [lg_entry_eq]
  exact hb
theorem pf_0_1 (G : GT) (σ : Hp) (j : Nat) (x : Int) {fs : List Value} (h : ent G σ 0 j = .inr (0, fs)) : .inr (0, fs.set 1 (iv x)) = ent G (hup σ 0 j 1 x) 0 j := by
  cases h
  simp [ent, hup]
theorem pf_1_1 (G : GT) (σ : Hp) (j : Nat) (x : Int) {fs : List Value} (h : ent G σ 1 j = .inr (1, fs)) : .inr (1, fs.set 1 (iv x)) = ent G (hup σ 1 j 1 x) 1 j := by
  cases h
  simp [ent, hup]
theorem pf_1_2 (G : GT) (σ : Hp) (j : Nat) (x : Int) {fs : List Value} (h : ent G σ 1 j = .inr (1, fs)) : .inr (1, fs.set 2 (iv x)) = ent G (hup σ 1 j 2 x) 1 j := by
  cases h
  simp [ent, hup]
theorem pf_3_1 (G : GT) (σ : Hp) (j : Nat) (x : Int) {fs : List Value} (h : ent G σ 3 j = .inr (3, fs)) : .inr (3, fs.set 1 (iv x)) = ent G (hup σ 3 j 1 x) 3 j := by
  cases h
  simp [ent, hup]
theorem pf_3_2 (G : GT) (σ : Hp) (j : Nat) (x : Int) {fs : List Value} (h : ent G σ 3 j = .inr (3, fs)) : .inr (3, fs.set 2 (iv x)) = ent G (hup σ 3 j 2 x) 3 j := by
  cases h
  simp [ent, hup]
theorem pf_3_3 (G : GT) (σ : Hp) (j : Nat) (x : Int) {fs : List Value} (h : ent G σ 3 j = .inr (3, fs)) : .inr (3, fs.set 3 (iv x)) = ent G (hup σ 3 j 3 x) 3 j := by
  cases h
  simp [ent, hup]
theorem pf_4_1 (G : GT) (σ : Hp) (j : Nat) (x : Int) {fs : List Value} (h : ent G σ 4 j = .inr (4, fs)) : .inr (4, fs.set 1 (iv x)) = ent G (hup σ 4 j 1 x) 4 j := by
  cases h
  simp [ent, hup]
theorem pf_4_2 (G : GT) (σ : Hp) (j : Nat) (x : Int) {fs : List Value} (h : ent G σ 4 j = .inr (4, fs)) : .inr (4, fs.set 2 (iv x)) = ent G (hup σ 4 j 2 x) 4 j := by
  cases h
  simp [ent, hup]
theorem pf_4_3 (G : GT) (σ : Hp) (j : Nat) (x : Int) {fs : List Value} (h : ent G σ 4 j = .inr (4, fs)) : .inr (4, fs.set 3 (iv x)) = ent G (hup σ 4 j 3 x) 4 j := by
  cases h
  simp [ent, hup]
theorem pf_4_4 (G : GT) (σ : Hp) (j : Nat) (x : Int) {fs : List Value} (h : ent G σ 4 j = .inr (4, fs)) : .inr (4, fs.set 4 (iv x)) = ent G (hup σ 4 j 4 x) 4 j := by
  cases h
  simp [ent, hup]
theorem pf_5_7 (G : GT) (σ : Hp) (j : Nat) (x : Int) {fs : List Value} (h : ent G σ 5 j = .inr (5, fs)) : .inr (5, fs.set 7 (iv x)) = ent G (hup σ 5 j 7 x) 5 j := by
  cases h
  simp [ent, hup]
theorem pf_5_8 (G : GT) (σ : Hp) (j : Nat) (x : Int) {fs : List Value} (h : ent G σ 5 j = .inr (5, fs)) : .inr (5, fs.set 8 (iv x)) = ent G (hup σ 5 j 8 x) 5 j := by
  cases h
  simp [ent, hup]
theorem pf_5_9 (G : GT) (σ : Hp) (j : Nat) (x : Int) {fs : List Value} (h : ent G σ 5 j = .inr (5, fs)) : .inr (5, fs.set 9 (iv x)) = ent G (hup σ 5 j 9 x) 5 j := by
  cases h
  simp [ent, hup]
theorem pf_5_10 (G : GT) (σ : Hp) (j : Nat) (x : Int) {fs : List Value} (h : ent G σ 5 j = .inr (5, fs)) : .inr (5, fs.set 10 (iv x)) = ent G (hup σ 5 j 10 x) 5 j := by
  cases h
  simp [ent, hup]
theorem pf_5_11 (G : GT) (σ : Hp) (j : Nat) (x : Int) {fs : List Value} (h : ent G σ 5 j = .inr (5, fs)) : .inr (5, fs.set 11 (iv x)) = ent G (hup σ 5 j 11 x) 5 j := by
  cases h
  simp [ent, hup]
theorem pf_6_8 (G : GT) (σ : Hp) (j : Nat) (x : Int) {fs : List Value} (h : ent G σ 6 j = .inr (6, fs)) : .inr (6, fs.set 8 (iv x)) = ent G (hup σ 6 j 8 x) 6 j := by
  cases h
  simp [ent, hup]
theorem pf_6_9 (G : GT) (σ : Hp) (j : Nat) (x : Int) {fs : List Value} (h : ent G σ 6 j = .inr (6, fs)) : .inr (6, fs.set 9 (iv x)) = ent G (hup σ 6 j 9 x) 6 j := by
  cases h
  simp [ent, hup]
theorem pf_7_4 (G : GT) (σ : Hp) (j : Nat) (x : Int) {fs : List Value} (h : ent G σ 7 j = .inr (7, fs)) : .inr (7, fs.set 4 (iv x)) = ent G (hup σ 7 j 4 x) 7 j := by
  cases h
  simp [ent, hup]
theorem pf_7_6 (G : GT) (σ : Hp) (j : Nat) (x : Int) {fs : List Value} (h : ent G σ 7 j = .inr (7, fs)) : .inr (7, fs.set 6 (iv x)) = ent G (hup σ 7 j 6 x) 7 j := by
  cases h
  simp [ent, hup]
theorem pf_7_7 (G : GT) (σ : Hp) (j : Nat) (x : Int) {fs : List Value} (h : ent G σ 7 j = .inr (7, fs)) : .inr (7, fs.set 7 (iv x)) = ent G (hup σ 7 j 7 x) 7 j := by
  cases h
  simp [ent, hup]
theorem pf_7_8 (G : GT) (σ : Hp) (j : Nat) (x : Int) {fs : List Value} (h : ent G σ 7 j = .inr (7, fs)) : .inr (7, fs.set 8 (iv x)) = ent G (hup σ 7 j 8 x) 7 j := by
  cases h
  simp [ent, hup]
theorem pf_7_9 (G : GT) (σ : Hp) (j : Nat) (x : Int) {fs : List Value} (h : ent G σ 7 j = .inr (7, fs)) : .inr (7, fs.set 9 (iv x)) = ent G (hup σ 7 j 9 x) 7 j := by
  cases h
  simp [ent, hup]
theorem pf_7_10 (G : GT) (σ : Hp) (j : Nat) (x : Int) {fs : List Value} (h : ent G σ 7 j = .inr (7, fs)) : .inr (7, fs.set 10 (iv x)) = ent G (hup σ 7 j 10 x) 7 j := by
  cases h
  simp [ent, hup]
theorem pf_7_11 (G : GT) (σ : Hp) (j : Nat) (x : Int) {fs : List Value} (h : ent G σ 7 j = .inr (7, fs)) : .inr (7, fs.set 11 (iv x)) = ent G (hup σ 7 j 11 x) 7 j := by
  cases h
  simp [ent, hup]
theorem pf_7_12 (G : GT) (σ : Hp) (j : Nat) (x : Int) {fs : List Value} (h : ent G σ 7 j = .inr (7, fs)) : .inr (7, fs.set 12 (iv x)) = ent G (hup σ 7 j 12 x) 7 j := by
  cases h
  simp [ent, hup]
theorem pf_7_16 (G : GT) (σ : Hp) (j : Nat) (x : Int) {fs : List Value} (h : ent G σ 7 j = .inr (7, fs)) : .inr (7, fs.set 16 (iv x)) = ent G (hup σ 7 j 16 x) 7 j := by
  cases h
  simp [ent, hup]
theorem pf_7_21 (G : GT) (σ : Hp) (j : Nat) (x : Int) {fs : List Value} (h : ent G σ 7 j = .inr (7, fs)) : .inr (7, fs.set 21 (iv x)) = ent G (hup σ 7 j 21 x) 7 j := by
  cases h
  simp [ent, hup]
