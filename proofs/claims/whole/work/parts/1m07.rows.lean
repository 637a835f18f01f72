/-! rows over whole numbers -/
section JR
variable {p : Program} {l : Launch} {e : Env} {R : Room} {s : State} {m : MethodId} {args : Array Value} {below : List Frame} {meth : Method} {c : Code} {H : Heap} {locs : List Loc} {cells slots : Nat} {Q : State → Prop}
variable {cc : ByteArray} {pc : Nat} {ls : Array Slot} {rest : List Value} {D : va_G} {ct : Nat → ClassId} {ad : Nat → Nat → Nat} {L : List (Nat × Nat)} {φ : Nat → Nat → Nat → Bool} {N0 : Nat} {σ : St}
variable {nL : Nat} {ret : Option FieldType} {own : String}
theorem j_iadd (X : Cx p s m meth c args cc nL ret own D ct L φ N0) {x y : Int} (hdg : decode cc pc = .ok (.iadd, 1)) (k : W p l e R s m args below meth c H locs cells slots Q (F0 m (pc + 1) ls (.int (iv (x + y)) :: rest))) : W p l e R s m args below meth c H locs cells slots Q (F0 m pc ls (.int (iv y) :: .int (iv x) :: rest)) :=
  lv_iadd X.1 X.2.1 hdg (by rw [iv_add]; exact k)
theorem j_isub (X : Cx p s m meth c args cc nL ret own D ct L φ N0) {x y : Int} (hdg : decode cc pc = .ok (.isub, 1)) (k : W p l e R s m args below meth c H locs cells slots Q (F0 m (pc + 1) ls (.int (iv (x - y)) :: rest))) : W p l e R s m args below meth c H locs cells slots Q (F0 m pc ls (.int (iv y) :: .int (iv x) :: rest)) :=
  lv_isub X.1 X.2.1 hdg (by rw [iv_sub]; exact k)
theorem j_isubw (X : Cx p s m meth c args cc nL ret own D ct L φ N0) {x y : Int} (hdg : decode cc pc = .ok (.isub, 1)) (k : W p l e R s m args below meth c H locs cells slots Q (F0 m (pc + 1) ls (.int (iv (i_wr (x - y))) :: rest))) : W p l e R s m args below meth c H locs cells slots Q (F0 m pc ls (.int (iv y) :: .int (iv x) :: rest)) :=
  lv_isub X.1 X.2.1 hdg (by rw [iv_sub, ← iv_wr]; exact k)
theorem j_imul (X : Cx p s m meth c args cc nL ret own D ct L φ N0) {x y : Int} (hdg : decode cc pc = .ok (.imul, 1)) (k : W p l e R s m args below meth c H locs cells slots Q (F0 m (pc + 1) ls (.int (iv (x * y)) :: rest))) : W p l e R s m args below meth c H locs cells slots Q (F0 m pc ls (.int (iv y) :: .int (iv x) :: rest)) :=
  lv_imul X.1 X.2.1 hdg (by rw [iv_mul]; exact k)
theorem j_ineg (X : Cx p s m meth c args cc nL ret own D ct L φ N0) {x : Int} (hdg : decode cc pc = .ok (.ineg, 1)) (k : W p l e R s m args below meth c H locs cells slots Q (F0 m (pc + 1) ls (.int (iv (-x)) :: rest))) : W p l e R s m args below meth c H locs cells slots Q (F0 m pc ls (.int (iv x) :: rest)) :=
  lv_ineg X.1 X.2.1 hdg (by rw [iv_neg]; exact k)
theorem j_idiv (X : Cx p s m meth c args cc nL ret own D ct L φ N0) {x y : Int} (hx : inR x) (hy : inR y) (h0 : y ≠ 0) (h1 : y ≠ -1) (hdg : decode cc pc = .ok (.idiv, 1)) (k : W p l e R s m args below meth c H locs cells slots Q (F0 m (pc + 1) ls (.int (iv (x.tdiv y)) :: rest))) : W p l e R s m args below meth c H locs cells slots Q (F0 m pc ls (.int (iv y) :: .int (iv x) :: rest)) :=
  lv_idiv X.1 X.2.1 hdg (iv_ne0 hy h0) (by rw [iv_div hx hy (fun q => h1 q.2)]; exact k)
theorem j_irem (X : Cx p s m meth c args cc nL ret own D ct L φ N0) {x y : Int} (hx : inR x) (hy : inR y) (h0 : y ≠ 0) (h1 : y ≠ -1) (hdg : decode cc pc = .ok (.irem, 1)) (k : W p l e R s m args below meth c H locs cells slots Q (F0 m (pc + 1) ls (.int (iv (x.tmod y)) :: rest))) : W p l e R s m args below meth c H locs cells slots Q (F0 m pc ls (.int (iv y) :: .int (iv x) :: rest)) :=
  lv_irem X.1 X.2.1 hdg (iv_ne0 hy h0) (by rw [iv_rem hx hy (fun q => h1 q.2)]; exact k)
theorem j_iand (X : Cx p s m meth c args cc nL ret own D ct L φ N0) {x y : Int} (hdg : decode cc pc = .ok (.iand, 1)) (k : W p l e R s m args below meth c H locs cells slots Q (F0 m (pc + 1) ls (.int (iv (i_iand x y)) :: rest))) : W p l e R s m args below meth c H locs cells slots Q (F0 m pc ls (.int (iv y) :: .int (iv x) :: rest)) := by
  unfold i_iand at k
  rw [iv_of] at k
  exact lv_iand X.1 X.2.1 hdg k
theorem j_ior (X : Cx p s m meth c args cc nL ret own D ct L φ N0) {x y : Int} (hdg : decode cc pc = .ok (.ior, 1)) (k : W p l e R s m args below meth c H locs cells slots Q (F0 m (pc + 1) ls (.int (iv (i_ior x y)) :: rest))) : W p l e R s m args below meth c H locs cells slots Q (F0 m pc ls (.int (iv y) :: .int (iv x) :: rest)) := by
  unfold i_ior at k
  rw [iv_of] at k
  exact lv_ior X.1 X.2.1 hdg k
theorem j_ixor (X : Cx p s m meth c args cc nL ret own D ct L φ N0) {x y : Int} (hdg : decode cc pc = .ok (.ixor, 1)) (k : W p l e R s m args below meth c H locs cells slots Q (F0 m (pc + 1) ls (.int (iv (i_ixor x y)) :: rest))) : W p l e R s m args below meth c H locs cells slots Q (F0 m pc ls (.int (iv y) :: .int (iv x) :: rest)) := by
  unfold i_ixor at k
  rw [iv_of] at k
  exact lv_ixor X.1 X.2.1 hdg k
theorem j_ishl (X : Cx p s m meth c args cc nL ret own D ct L φ N0) {x y : Int} (hdg : decode cc pc = .ok (.ishl, 1)) (k : W p l e R s m args below meth c H locs cells slots Q (F0 m (pc + 1) ls (.int (iv (i_ishl x y)) :: rest))) : W p l e R s m args below meth c H locs cells slots Q (F0 m pc ls (.int (iv y) :: .int (iv x) :: rest)) := by
  unfold i_ishl at k
  rw [iv_of] at k
  exact lv_ishl X.1 X.2.1 hdg k
theorem j_ishr (X : Cx p s m meth c args cc nL ret own D ct L φ N0) {x y : Int} (hdg : decode cc pc = .ok (.ishr, 1)) (k : W p l e R s m args below meth c H locs cells slots Q (F0 m (pc + 1) ls (.int (iv (i_ishr x y)) :: rest))) : W p l e R s m args below meth c H locs cells slots Q (F0 m pc ls (.int (iv y) :: .int (iv x) :: rest)) := by
  unfold i_ishr at k
  rw [iv_of] at k
  exact lv_ishr X.1 X.2.1 hdg k
theorem j_iushr (X : Cx p s m meth c args cc nL ret own D ct L φ N0) {x y : Int} (hdg : decode cc pc = .ok (.iushr, 1)) (k : W p l e R s m args below meth c H locs cells slots Q (F0 m (pc + 1) ls (.int (iv (i_iushr x y)) :: rest))) : W p l e R s m args below meth c H locs cells slots Q (F0 m pc ls (.int (iv y) :: .int (iv x) :: rest)) := by
  unfold i_iushr at k
  rw [iv_of] at k
  exact lv_iushr X.1 X.2.1 hdg rfl k
theorem j_i2b (X : Cx p s m meth c args cc nL ret own D ct L φ N0) {x : Int} (hdg : decode cc pc = .ok (.i2b, 1)) (k : W p l e R s m args below meth c H locs cells slots Q (F0 m (pc + 1) ls (.int (iv (i_i2b x)) :: rest))) : W p l e R s m args below meth c H locs cells slots Q (F0 m pc ls (.int (iv x) :: rest)) := by
  unfold i_i2b at k
  rw [iv_of] at k
  exact lv_i2b X.1 X.2.1 hdg rfl k
theorem j_i2s (X : Cx p s m meth c args cc nL ret own D ct L φ N0) {x : Int} (hdg : decode cc pc = .ok (.i2s, 1)) (k : W p l e R s m args below meth c H locs cells slots Q (F0 m (pc + 1) ls (.int (iv (i_i2s x)) :: rest))) : W p l e R s m args below meth c H locs cells slots Q (F0 m pc ls (.int (iv x) :: rest)) := by
  unfold i_i2s at k
  rw [iv_of] at k
  exact lv_i2s X.1 X.2.1 hdg rfl k
theorem j_i2c (X : Cx p s m meth c args cc nL ret own D ct L φ N0) {x : Int} (hdg : decode cc pc = .ok (.i2c, 1)) (k : W p l e R s m args below meth c H locs cells slots Q (F0 m (pc + 1) ls (.int (iv (i_i2c x)) :: rest))) : W p l e R s m args below meth c H locs cells slots Q (F0 m pc ls (.int (iv x) :: rest)) := by
  unfold i_i2c at k
  rw [iv_of] at k
  exact lv_i2c X.1 X.2.1 hdg rfl k
theorem j_iconst (X : Cx p s m meth c args cc nL ret own D ct L φ N0) {n : Int} (hdg : decode cc pc = .ok (.iconst n, 1)) (k : W p l e R s m args below meth c H locs cells slots Q (F0 m (pc + 1) ls (.int (iv n) :: rest))) : W p l e R s m args below meth c H locs cells slots Q (F0 m pc ls rest) := lv_iconst X.1 X.2.1 hdg rfl k
theorem j_bipush (X : Cx p s m meth c args cc nL ret own D ct L φ N0) {n : Int} (hdg : decode cc pc = .ok (.bipush n, 2)) (hv : (Int8.ofInt n).toInt32 = iv n) (k : W p l e R s m args below meth c H locs cells slots Q (F0 m (pc + 2) ls (.int (iv n) :: rest))) : W p l e R s m args below meth c H locs cells slots Q (F0 m pc ls rest) := lv_bipush X.1 X.2.1 hdg hv k
theorem j_sipush (X : Cx p s m meth c args cc nL ret own D ct L φ N0) {n : Int} (hdg : decode cc pc = .ok (.sipush n, 3)) (hv : (Int16.ofInt n).toInt32 = iv n) (k : W p l e R s m args below meth c H locs cells slots Q (F0 m (pc + 3) ls (.int (iv n) :: rest))) : W p l e R s m args below meth c H locs cells slots Q (F0 m pc ls rest) := lv_sipush X.1 X.2.1 hdg hv k
theorem j_ldc (X : Cx p s m meth c args cc nL ret own D ct L φ N0) {n : Int} {v : Int32} {index : Nat} (hw : Cond.constant own index v ∈ gw) (hv : v = iv n) (hdg : decode cc pc = .ok (.ldc index, 2)) (k : W p l e R s m args below meth c H locs cells slots Q (F0 m (pc + 2) ls (.int (iv n) :: rest))) : W p l e R s m args below meth c H locs cells slots Q (F0 m pc ls rest) := by
  subst hv
  exact lv_ldc X.1 X.2.1 X.2.2.2.2.1 (X.2.2.2.2.2.2.1 _ hw) hdg k
theorem j_iinc (X : Cx p s m meth c args cc nL ret own D ct L φ N0) {i kk9 : Nat} {n x : Int} {lv lv' : List (Nat × Value)} (hdg : decode cc pc = .ok (.iinc i n, 3)) (h : lv_has ls nL lv) (hk : lv[kk9]? = some (i, .int (iv x))) (hn : i < nL) (hl : (i, Value.int (iv (x + n))) :: lv.filter (fun q => !(q.1 == i) && !(q.1 + 1 == i && q.2.category == 2)) = lv')
    (kk : ∀ ls' : Array Slot, lv_has ls' nL lv' → W p l e R s m args below meth c H locs cells slots Q (F0 m (pc + 3) ls' rest)) : W p l e R s m args below meth c H locs cells slots Q (F0 m pc ls rest) := lv_iinc X.1 X.2.1 hdg h hk (iv_add x n) hn hl kk
theorem j_cmp_eq (X : Cx p s m meth c args cc nL ret own D ct L φ N0) {x y off : Int} {tgt : Nat} (hx : inR x) (hy : inR y) (hdg : decode cc pc = .ok (.if_icmp .eq off, 3)) (ht : (pc : Int) + off = (tgt : Int)) (kt : x = y → W p l e R s m args below meth c H locs cells slots Q (F0 m tgt ls rest)) (kf : ¬ x = y → W p l e R s m args below meth c H locs cells slots Q (F0 m (pc + 3) ls rest)) : W p l e R s m args below meth c H locs cells slots Q (F0 m pc ls (.int (iv y) :: .int (iv x) :: rest)) :=
  lv_icmp_eq X.1 X.2.1 hdg ht (fun q => kt ((iv_eq hx hy).mp q)) (fun q => kf (fun r => q ((iv_eq hx hy).mpr r)))
theorem j_if_eq (X : Cx p s m meth c args cc nL ret own D ct L φ N0) {x off : Int} {tgt : Nat} (hx : inR x) (hdg : decode cc pc = .ok (.ifCond .eq off, 3)) (ht : (pc : Int) + off = (tgt : Int)) (kt : x = 0 → W p l e R s m args below meth c H locs cells slots Q (F0 m tgt ls rest)) (kf : ¬ x = 0 → W p l e R s m args below meth c H locs cells slots Q (F0 m (pc + 3) ls rest)) : W p l e R s m args below meth c H locs cells slots Q (F0 m pc ls (.int (iv x) :: rest)) :=
  lv_if_eq X.1 X.2.1 hdg ht (fun q => kt ((iv_eq hx (y := 0) ⟨by decide, by decide⟩).mp q)) (fun q => kf (fun r => q ((iv_eq hx (y := 0) ⟨by decide, by decide⟩).mpr r)))
theorem j_cmp_lt (X : Cx p s m meth c args cc nL ret own D ct L φ N0) {x y off : Int} {tgt : Nat} (hx : inR x) (hy : inR y) (hdg : decode cc pc = .ok (.if_icmp .lt off, 3)) (ht : (pc : Int) + off = (tgt : Int)) (kt : x < y → W p l e R s m args below meth c H locs cells slots Q (F0 m tgt ls rest)) (kf : ¬ x < y → W p l e R s m args below meth c H locs cells slots Q (F0 m (pc + 3) ls rest)) : W p l e R s m args below meth c H locs cells slots Q (F0 m pc ls (.int (iv y) :: .int (iv x) :: rest)) :=
  lv_icmp_lt X.1 X.2.1 hdg ht (fun q => kt ((iv_lt hx hy).mp q)) (fun q => kf (fun r => q ((iv_lt hx hy).mpr r)))
theorem j_if_lt (X : Cx p s m meth c args cc nL ret own D ct L φ N0) {x off : Int} {tgt : Nat} (hx : inR x) (hdg : decode cc pc = .ok (.ifCond .lt off, 3)) (ht : (pc : Int) + off = (tgt : Int)) (kt : x < 0 → W p l e R s m args below meth c H locs cells slots Q (F0 m tgt ls rest)) (kf : ¬ x < 0 → W p l e R s m args below meth c H locs cells slots Q (F0 m (pc + 3) ls rest)) : W p l e R s m args below meth c H locs cells slots Q (F0 m pc ls (.int (iv x) :: rest)) :=
  lv_if_lt X.1 X.2.1 hdg ht (fun q => kt ((iv_lt hx (y := 0) ⟨by decide, by decide⟩).mp q)) (fun q => kf (fun r => q ((iv_lt hx (y := 0) ⟨by decide, by decide⟩).mpr r)))
theorem j_cmp_le (X : Cx p s m meth c args cc nL ret own D ct L φ N0) {x y off : Int} {tgt : Nat} (hx : inR x) (hy : inR y) (hdg : decode cc pc = .ok (.if_icmp .le off, 3)) (ht : (pc : Int) + off = (tgt : Int)) (kt : x ≤ y → W p l e R s m args below meth c H locs cells slots Q (F0 m tgt ls rest)) (kf : ¬ x ≤ y → W p l e R s m args below meth c H locs cells slots Q (F0 m (pc + 3) ls rest)) : W p l e R s m args below meth c H locs cells slots Q (F0 m pc ls (.int (iv y) :: .int (iv x) :: rest)) :=
  lv_icmp_le X.1 X.2.1 hdg ht (fun q => kt ((iv_le hx hy).mp q)) (fun q => kf (fun r => q ((iv_le hx hy).mpr r)))
theorem j_if_le (X : Cx p s m meth c args cc nL ret own D ct L φ N0) {x off : Int} {tgt : Nat} (hx : inR x) (hdg : decode cc pc = .ok (.ifCond .le off, 3)) (ht : (pc : Int) + off = (tgt : Int)) (kt : x ≤ 0 → W p l e R s m args below meth c H locs cells slots Q (F0 m tgt ls rest)) (kf : ¬ x ≤ 0 → W p l e R s m args below meth c H locs cells slots Q (F0 m (pc + 3) ls rest)) : W p l e R s m args below meth c H locs cells slots Q (F0 m pc ls (.int (iv x) :: rest)) :=
  lv_if_le X.1 X.2.1 hdg ht (fun q => kt ((iv_le hx (y := 0) ⟨by decide, by decide⟩).mp q)) (fun q => kf (fun r => q ((iv_le hx (y := 0) ⟨by decide, by decide⟩).mpr r)))
theorem j_cmp_ge (X : Cx p s m meth c args cc nL ret own D ct L φ N0) {x y off : Int} {tgt : Nat} (hx : inR x) (hy : inR y) (hdg : decode cc pc = .ok (.if_icmp .ge off, 3)) (ht : (pc : Int) + off = (tgt : Int)) (kt : y ≤ x → W p l e R s m args below meth c H locs cells slots Q (F0 m tgt ls rest)) (kf : ¬ y ≤ x → W p l e R s m args below meth c H locs cells slots Q (F0 m (pc + 3) ls rest)) : W p l e R s m args below meth c H locs cells slots Q (F0 m pc ls (.int (iv y) :: .int (iv x) :: rest)) :=
  lv_icmp_ge X.1 X.2.1 hdg ht (fun q => kt ((iv_le hy hx).mp q)) (fun q => kf (fun r => q ((iv_le hy hx).mpr r)))
theorem j_if_ge (X : Cx p s m meth c args cc nL ret own D ct L φ N0) {x off : Int} {tgt : Nat} (hx : inR x) (hdg : decode cc pc = .ok (.ifCond .ge off, 3)) (ht : (pc : Int) + off = (tgt : Int)) (kt : 0 ≤ x → W p l e R s m args below meth c H locs cells slots Q (F0 m tgt ls rest)) (kf : ¬ 0 ≤ x → W p l e R s m args below meth c H locs cells slots Q (F0 m (pc + 3) ls rest)) : W p l e R s m args below meth c H locs cells slots Q (F0 m pc ls (.int (iv x) :: rest)) :=
  lv_if_ge X.1 X.2.1 hdg ht (fun q => kt ((iv_le (x := 0) ⟨by decide, by decide⟩ hx).mp q)) (fun q => kf (fun r => q ((iv_le (x := 0) ⟨by decide, by decide⟩ hx).mpr r)))
theorem j_cmp_gt (X : Cx p s m meth c args cc nL ret own D ct L φ N0) {x y off : Int} {tgt : Nat} (hx : inR x) (hy : inR y) (hdg : decode cc pc = .ok (.if_icmp .gt off, 3)) (ht : (pc : Int) + off = (tgt : Int)) (kt : y < x → W p l e R s m args below meth c H locs cells slots Q (F0 m tgt ls rest)) (kf : ¬ y < x → W p l e R s m args below meth c H locs cells slots Q (F0 m (pc + 3) ls rest)) : W p l e R s m args below meth c H locs cells slots Q (F0 m pc ls (.int (iv y) :: .int (iv x) :: rest)) :=
  lv_icmp_gt X.1 X.2.1 hdg ht (fun q => kt ((iv_lt hy hx).mp q)) (fun q => kf (fun r => q ((iv_lt hy hx).mpr r)))
theorem j_if_gt (X : Cx p s m meth c args cc nL ret own D ct L φ N0) {x off : Int} {tgt : Nat} (hx : inR x) (hdg : decode cc pc = .ok (.ifCond .gt off, 3)) (ht : (pc : Int) + off = (tgt : Int)) (kt : 0 < x → W p l e R s m args below meth c H locs cells slots Q (F0 m tgt ls rest)) (kf : ¬ 0 < x → W p l e R s m args below meth c H locs cells slots Q (F0 m (pc + 3) ls rest)) : W p l e R s m args below meth c H locs cells slots Q (F0 m pc ls (.int (iv x) :: rest)) :=
  lv_if_gt X.1 X.2.1 hdg ht (fun q => kt ((iv_lt (x := 0) ⟨by decide, by decide⟩ hx).mp q)) (fun q => kf (fun r => q ((iv_lt (x := 0) ⟨by decide, by decide⟩ hx).mpr r)))
theorem j_cmp_ne (X : Cx p s m meth c args cc nL ret own D ct L φ N0) {x y off : Int} {tgt : Nat} (hx : inR x) (hy : inR y) (hdg : decode cc pc = .ok (.if_icmp .ne off, 3)) (ht : (pc : Int) + off = (tgt : Int)) (kt : ¬ x = y → W p l e R s m args below meth c H locs cells slots Q (F0 m tgt ls rest)) (kf : x = y → W p l e R s m args below meth c H locs cells slots Q (F0 m (pc + 3) ls rest)) : W p l e R s m args below meth c H locs cells slots Q (F0 m pc ls (.int (iv y) :: .int (iv x) :: rest)) :=
  lv_icmp_ne X.1 X.2.1 hdg ht (fun q => kt (fun r => q ((iv_eq hx hy).mpr r))) (fun q => kf ((iv_eq hx hy).mp q))
theorem j_if_ne (X : Cx p s m meth c args cc nL ret own D ct L φ N0) {x off : Int} {tgt : Nat} (hx : inR x) (hdg : decode cc pc = .ok (.ifCond .ne off, 3)) (ht : (pc : Int) + off = (tgt : Int)) (kt : ¬ x = 0 → W p l e R s m args below meth c H locs cells slots Q (F0 m tgt ls rest)) (kf : x = 0 → W p l e R s m args below meth c H locs cells slots Q (F0 m (pc + 3) ls rest)) : W p l e R s m args below meth c H locs cells slots Q (F0 m pc ls (.int (iv x) :: rest)) :=
  lv_if_ne X.1 X.2.1 hdg ht (fun q => kt (fun r => q ((iv_eq hx (y := 0) ⟨by decide, by decide⟩).mpr r))) (fun q => kf ((iv_eq hx (y := 0) ⟨by decide, by decide⟩).mp q))
end JR
