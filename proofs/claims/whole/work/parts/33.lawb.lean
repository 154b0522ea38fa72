/-! THE CLAIM OUT OF ONE WALK OF THE LAW'S BODY. Your part is whole_start (and what it stands on); all else here is the same for every law, but numbers. -/
def R_law : String := "BarkNamesLaw"
def lw_P (b : Addr) (xs : List Int32) (args : Array Value) (s : State) : Prop := args = #[.ref b] ∧ s.IntsAt b xs ∧ xs.length ≤ 384 ∧ (Jvm.Cond.and given_1 narrow_1).before args s = true
def lw_Q (_ : Array Value) (s : State) (o : Outcome) (t : State) : Prop := o = .returned (some (.int 1)) ∧ Framed s o t [] 600000 7302250
def lw_Z (below : List Frame) (a : Array Value) (s : State) : State → Prop := fun t => ∃ o, t.status = .running ∧ Ended t below o ∧ lw_Q a s o t
/-- the law's own end, with 1 on the stack, nothing written that was there before, its room as the claim has it -/
theorem lw_ret {p : Program} {l : Launch} {e : Env} {s : State} {m : MethodId} {below : List Frame} {meth : Method} {c : Code} {b : Nat} (hx : p.tables.exec = Jvm.exec) (hb : c.code = code) (hr : meth.sig.returnType = ret) (hlocks : meth.locks = false) {pc : Nat} {H : Heap} {ls : Array Slot} (hdg : decode code pc = .ok (.ireturn, 1)) : W p l e room_1 s m #[Value.ref b] below meth c H [] 600000 7302250 (lw_Z below #[Value.ref b] s) (F0 m pc ls [.int 1]) := by
  intro T hT X
  obtain ⟨fs, hret, hrun, hended, hW, hframe⟩ := X.leave (v := some (.int 1)) (hlocks := hlocks) (fun h => by rw [hr] at h; cases h)
  have hmeth' : T.vm.method? m = some meth := X.method'
  refine ⟨T.setFrames fs, ?_, .returned (some (.int 1)), hrun, hended, rfl, ⟨_, rfl⟩, hW, hframe⟩
  jvm_step X.here [X.here.top, hx, hb, hdg, hmeth', hr, ret, narrow_b1]
  (try refine ⟨rfl, ?_⟩); (try refine ⟨rfl, ?_⟩)
  first | (intro acts; rw [hret _ acts rfl rfl rfl]) | rw [hret _ _ rfl rfl rfl]
  exact Steps.refl _
/-- what holds at the law's entry: the machine, the code, the tables' words (any of lw_tbl by 'hts w (by decide +kernel)'), the script of L ints xs at the cell b, what the Statement gives of the start (any of its parts by flat_of_before) -/
def lw_At (p : Program) (s : State) (m : MethodId) (meth : Method) (c : Code) (b L : Nat) (xs : Nat → Int32) : Prop :=
  p.tables.exec = Jvm.exec ∧ c.code = code ∧ meth.sig.returnType = ret ∧ c.maxLocals = 4 ∧ s.vm.findClass R_law = some m.cls ∧ (∀ w ∈ lw_tbl, w.before #[Value.ref b] s = true) ∧ va_X b L xs s s.heap ∧ b < s.heap.size ∧ meth.locks = false ∧ (Jvm.Cond.and given_1 narrow_1).before #[Value.ref b] s = true
section LAWR
variable {p : Program} {l : Launch} {e : Env} {R : Room} {s : State} {m : MethodId} {args : Array Value} {below : List Frame} {meth : Method} {c : Code} {Q : State → Prop} {G : GT} {cells slots nL : Nat} {σ : Hp} {pc q : Nat} {lv : List (Nat × Value)} {st : List Value} {cc : ByteArray} {own : String} {Ts : List Cond} {b L : Nat} {ys : Nat → Int32} {xs : Nat → Int}
theorem V_slen (hC : CX p s m args c cc nL own Ts G (fun q => s.heap.size ≤ q)) (hX : va_X b L ys s s.heap) (hbl : b < s.heap.size) (hd : decode cc pc = .ok (.arraylength, 1)) (hq : pc + 1 = q) (kk : VV p l e R s m args below meth c Q G (fun q => s.heap.size ≤ q) cells slots nL σ q lv (iv (L : Int) :: st)) : VV p l e R s m args below meth c Q G (fun q => s.heap.size ≤ q) cells slots nL σ pc lv (.ref b :: st) := by
  subst hq
  intro H locs ls hl hP hS
  have hk := kk H locs ls hl hP hS
  rw [iv, Int32.ofInt_eq_ofNat] at hk
  exact va_slen hC.1 hC.2.1 hX hbl (Nat.not_le.mpr hbl) hS hd hk
theorem V_sld (hC : CX p s m args c cc nL own Ts G (fun q => s.heap.size ≤ q)) (hX : va_X b L ys s s.heap) (hbl : b < s.heap.size) (hxs : ∀ k, xs k = (ys k).toInt) {i : Int} (hb0 : 0 ≤ i ∧ i < (L : Int)) (hi : Rg i) (hd : decode cc pc = .ok (.iaload, 1)) (hq : pc + 1 = q) (kk : VV p l e R s m args below meth c Q G (fun q => s.heap.size ≤ q) cells slots nL σ q lv (iv (xs i.toNat) :: st)) : VV p l e R s m args below meth c Q G (fun q => s.heap.size ≤ q) cells slots nL σ pc lv (iv i :: .ref b :: st) := by
  subst hq
  intro H locs ls hl hP hS
  have hk := kk H locs ls hl hP hS
  rw [hxs, iv_ti] at hk
  refine va_sld hC.1 hC.2.1 hX hbl (Nat.not_le.mpr hbl) hS (oi_in hi hb0) hd ?_
  rw [oi_nat hb0.1 hi]
  exact hk
theorem law_no {σ σ0 : Hp} (h : some ((0 : Int), σ) = some ((1 : Int), σ0)) : False := by
  have h2 : (0 : Int) = 1 := congrArg Prod.fst (Option.some.inj h)
  exact absurd h2 (by decide)
theorem V_lret {Ts : List Cond} (hC : CX p s m #[Value.ref b] c cL_law nL own Ts G (fun q => s.heap.size ≤ q)) (hr : meth.sig.returnType = ret) (hlk : meth.locks = false) (hce : cells ≤ room_1.cells ∧ slots ≤ room_1.slots) (hd : decode cL_law pc = .ok (.ireturn, 1)) : VV p l e room_1 s m #[Value.ref b] below meth c (lw_Z below #[Value.ref b] s) G (fun q => s.heap.size ≤ q) cells slots nL σ pc lv [iv 1] := by
  intro H locs ls hl hP hS
  refine va_forget (fun q hq => hS.2.2 q hq) ?_
  refine W.widen (k := 600000) (n := 7302250) hce.1 hce.2 ?_
  exact lw_ret hC.1 hC.2.1 hr hlk hd
end LAWR
