/-! rows of the law: its script -/
section LR
variable {p : Program} {l : Launch} {e : Env} {R : Room} {s : State} {m : MethodId} {args : Array Value} {below : List Frame} {meth : Method} {c : Code} {H : Heap} {locs : List Loc} {cells slots : Nat} {Q : State → Prop}
variable {cc : ByteArray} {pc : Nat} {ls : Array Slot} {rest : List Value} {D : va_G} {ct : Nat → ClassId} {ad : Nat → Nat → Nat} {L : List (Nat × Nat)} {φ : Nat → Nat → Nat → Bool} {N0 : Nat} {σ : St}
variable {nL : Nat} {ret : Option FieldType} {own : String}
def sx (xs : Nat → Int32) (k : Int) : Int := (xs k.toNat).toInt
theorem sx_in (xs : Nat → Int32) (k : Int) : inR (sx xs k) := inR_of _
def Sx (b LL : Nat) (xs : Nat → Int32) (N0 : Nat) (s : State) : Prop := va_X b LL xs s s.heap ∧ b < s.heap.size ∧ b < N0 ∧ LL ≤ 4096
theorem s_ld {b LL : Nat} {xs : Nat → Int32} (X : Cx p s m meth c args cc nL ret own D ct L φ N0) (S : Sx b LL xs N0 s) (h : Hs D ct ad L φ N0 s.heap σ H locs) {k : Int} (hk : 0 ≤ k ∧ k < LL) (d4 : decode cc pc = .ok (.iaload, 1))
    (kk : W p l e R s m args below meth c H locs cells slots Q (F0 m (pc + 1) ls (.int (iv (sx xs k)) :: rest))) : W p l e R s m args below meth c H locs cells slots Q (F0 m pc ls (.int (iv k) :: .ref b :: rest)) := by
  obtain ⟨h1, h2, h3, h4⟩ := S
  refine va_sld (A := AA N0) X.1 X.2.1 h1 h2 (fun q => Nat.not_le.mpr h3 q) h.2.1 (iv_in (by omega) hk.1 hk.2) d4 ?_
  rw [iv_clamp ⟨by omega, by omega⟩]
  unfold sx at kk
  rw [iv_of] at kk
  exact kk
theorem s_arg {b LL : Nat} {xs : Nat → Int32} {i k : Int} {lv : List (Nat × Value)} {k0 k4 : Nat} (X : Cx p s m meth c args cc nL ret own D ct L φ N0) (S : Sx b LL xs N0 s) (h : Hs D ct ad L φ N0 s.heap σ H locs) (hl : lv_has ls nL lv) (e0 : lv[k0]? = some (0, .ref b)) (e4 : lv[k4]? = some (4, .int (iv i))) (hk : 0 ≤ i + k ∧ i + k < LL) (d0 : decode cc pc = .ok (.aload_n 0, 1)) (d1 : decode cc (pc + 1) = .ok (.iload 4, 2)) (d2 : decode cc (pc + 1 + 2) = .ok (.iconst k, 1)) (d3 : decode cc (pc + 1 + 2 + 1) = .ok (.iadd, 1)) (d4 : decode cc (pc + 1 + 2 + 1 + 1) = .ok (.iaload, 1))
    (kk : W p l e R s m args below meth c H locs cells slots Q (F0 m (pc + 1 + 2 + 1 + 1 + 1) ls (.int (iv (sx xs (i + k))) :: rest))) : W p l e R s m args below meth c H locs cells slots Q (F0 m pc ls rest) := by
  refine lv_aload_n X.1 X.2.1 d0 rfl (lv_at hl k0 e0) ?_
  refine lv_iload X.1 X.2.1 d1 (lv_at hl k4 e4) ?_
  refine j_iconst X d2 ?_
  refine j_iadd X d3 ?_
  exact s_ld X S h hk d4 kk
theorem s_argb {b LL : Nat} {xs : Nat → Int32} {i k : Int} {lv : List (Nat × Value)} {k0 k4 : Nat} (X : Cx p s m meth c args cc nL ret own D ct L φ N0) (S : Sx b LL xs N0 s) (h : Hs D ct ad L φ N0 s.heap σ H locs) (hl : lv_has ls nL lv) (e0 : lv[k0]? = some (0, .ref b)) (e4 : lv[k4]? = some (4, .int (iv i))) (hk : 0 ≤ i + k ∧ i + k < LL) (hv : (Int8.ofInt k).toInt32 = iv k) (d0 : decode cc pc = .ok (.aload_n 0, 1)) (d1 : decode cc (pc + 1) = .ok (.iload 4, 2)) (d2 : decode cc (pc + 1 + 2) = .ok (.bipush k, 2)) (d3 : decode cc (pc + 1 + 2 + 2) = .ok (.iadd, 1)) (d4 : decode cc (pc + 1 + 2 + 2 + 1) = .ok (.iaload, 1))
    (kk : W p l e R s m args below meth c H locs cells slots Q (F0 m (pc + 1 + 2 + 2 + 1 + 1) ls (.int (iv (sx xs (i + k))) :: rest))) : W p l e R s m args below meth c H locs cells slots Q (F0 m pc ls rest) := by
  refine lv_aload_n X.1 X.2.1 d0 rfl (lv_at hl k0 e0) ?_
  refine lv_iload X.1 X.2.1 d1 (lv_at hl k4 e4) ?_
  refine j_bipush X d2 hv ?_
  refine j_iadd X d3 ?_
  exact s_ld X S h hk d4 kk
def bz (x : Int) : Int := if x = 0 then 0 else 1
theorem s_bool {x : Int} (X : Cx p s m meth c args cc nL ret own D ct L φ N0) (hx : inR x) (d0 : decode cc pc = .ok (.ifCond .eq 7, 3)) (d1 : decode cc (pc + 3) = .ok (.iconst 1, 1)) (d2 : decode cc (pc + 3 + 1) = .ok (.goto 4, 3)) (d3 : decode cc (pc + 7) = .ok (.iconst 0, 1))
    (kk : W p l e R s m args below meth c H locs cells slots Q (F0 m (pc + 8) ls (.int (iv (bz x)) :: rest))) : W p l e R s m args below meth c H locs cells slots Q (F0 m pc ls (.int (iv x) :: rest)) := by
  unfold bz at kk
  refine j_if_eq (tgt := pc + 7) X hx d0 (by omega) (fun q => ?_) (fun q => ?_)
  · rw [if_pos q] at kk
    exact j_iconst X d3 kk
  · rw [if_neg q] at kk
    refine j_iconst X d1 ?_
    exact lv_goto (tgt := pc + 8) X.1 X.2.1 d2 (by omega) kk
theorem lg_cmp_self (x : Int64) : lg_cmp x x = 0 := by simp [lg_cmp]
abbrev lvL (b : Nat) (ad : Nat → Nat → Nat) (i : Int) : List (Nat × Value) := [(0, .ref b), (1, .ref (ad 11 0)), (2, .ref (ad 12 0)), (3, .ref (ad 156 0)), (4, .int (iv i))]
/-- the law goes on behind its switch from every world that meets J -/
def Kn (p : Program) (l : Launch) (e : Env) (s : State) (m : MethodId) (below : List Frame) (meth : Method) (c : Code) (b : Nat) (D : va_G) (ct : Nat → ClassId) (N0 : Nat) (i : Int) (cells slots : Nat) (Q : State → Prop) (J : St → Prop) : Prop :=
  ∀ (σ : St) (ad : Nat → Nat → Nat) (L : List (Nat × Nat)) (φ : Nat → Nat → Nat → Bool) (H : Heap) (locs : List Loc) (ls : Array Slot), J σ → Hs D ct ad L φ N0 s.heap σ H locs → FullS L φ → (156, 0) ∈ L → lv_has ls 7 (lvL b ad i) → W p l e room_1 s m #[Value.ref b] below meth c H locs (cells + 25) (slots + 165) Q (F0 m 2584 ls [])
end LR
