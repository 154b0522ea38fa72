section MORE
variable {p : Program} {l : Launch} {e : Env} {R : Room} {s : State} {m : MethodId} {args : Array Value} {below : List Frame} {meth : Method} {c : Code} {Q : State → Prop} {G : GT} {A : Nat → Prop} {cells slots nL : Nat} {σ : Hp} {pc : Nat} {lv : List (Nat × Value)} {st : List Value}
theorem V_top {x y : Int} (h : x = y) (kk : VV p l e R s m args below meth c Q G A cells slots nL σ pc lv (iv x :: st)) : VV p l e R s m args below meth c Q G A cells slots nL σ pc lv (iv y :: st) := h ▸ kk
end MORE
