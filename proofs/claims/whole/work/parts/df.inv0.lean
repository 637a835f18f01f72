/-! the first world keeps what class and reference keep alike -/
theorem zz {a b : Int} (ha : a ≤ 0) (hb : 0 ≤ b) (i : Nat) : a ≤ z0 i ∧ z0 i ≤ b := ⟨ha, hb⟩
theorem ub {a b v : Int} {f : Nat → Int} {k : Nat} (h : ∀ i, a ≤ f i ∧ f i ≤ b) (hv : a ≤ v ∧ v ≤ b) : ∀ i, a ≤ up f k v i ∧ up f k v i ≤ b := by
  intro i
  unfold up
  split
  · exact hv
  · exact h i
theorem no0 {i : Nat} {P : Prop} (h : (i : Int) < 0) : P := absurd h (by omega)
theorem pr0 : s0 92 0 = s0 20 0 := by
  funext i
  show (if i = 6 then (10 : Int) else if i = 5 then 10 else if i = 4 then 10 else if i = 3 then 10 else if i = 2 then 10 else 0) = (if i = 6 then (10 : Int) else if i = 5 then 10 else if i = 4 then 10 else if i = 3 then 10 else if i = 2 then 10 else if i = 1 then 0 else if i = 0 then 0 else 0)
  have e : (if i = 1 then (0 : Int) else if i = 0 then 0 else 0) = 0 := by
    split
    · rfl
    · split <;> rfl
  rw [e]
theorem Inv0 : Inv 0 s0 := by
  unfold Inv
  refine ⟨?_, ?_, ?_, ?_, ?_, ?_, ?_, ?_, ?_, ?_, ?_, ?_, ?_, ?_, ?_, ?_, ?_, ?_, ?_⟩
  · exact ⟨⟨by decide, by decide, rfl⟩, ⟨by decide, by decide, by decide, by decide⟩, fun i => zz (by decide) (by decide) i, fun i => ⟨rfl, rfl, rfl⟩, fun i => zz (by decide) (by decide) i, by decide⟩
  · refine ⟨⟨rfl, rfl, rfl, rfl, rfl, by decide⟩, ⟨by decide, by decide⟩, fun i => zz (by decide) (by decide) i, fun i => zz (by decide) (by decide) i, fun i => zz (by decide) (by decide) i, ?_, by decide⟩
    exact ub (ub (ub (ub (fun i => zz (by decide) (by decide) i) ⟨by decide, by decide⟩) ⟨by decide, by decide⟩) ⟨by decide, by decide⟩) ⟨by decide, by decide⟩
  · refine ⟨pr0, ?_⟩
    exact ub (ub (ub (ub (ub (ub (ub (fun i => zz (by decide) (by decide) i) ⟨by decide, by decide⟩) ⟨by decide, by decide⟩) ⟨by decide, by decide⟩) ⟨by decide, by decide⟩) ⟨by decide, by decide⟩) ⟨by decide, by decide⟩) ⟨by decide, by decide⟩
  · exact ⟨⟨by decide, by decide, by decide⟩, by decide, by decide, by decide, by decide⟩
  · exact fun i h => no0 h
  · exact fun i h => no0 h
  · exact ⟨by decide, ⟨by decide, by decide⟩, fun i h => no0 h, fun i _ => ⟨rfl, rfl⟩⟩
  · exact fun c _ => rfl
  · exact ⟨⟨by decide, by decide, by decide⟩, fun i h => no0 h, fun i _ => ⟨rfl, rfl⟩⟩
  · exact ⟨⟨by decide, by decide, by decide⟩, fun i h => no0 h, fun i _ => ⟨rfl, rfl, rfl, rfl, rfl⟩⟩
  · exact ⟨⟨by decide, by decide, by decide⟩, ⟨rfl, rfl, rfl⟩, fun i => zz (by decide) (by decide) i, fun i h => no0 h, fun i => zz (by decide) (by decide) i⟩
  · exact ⟨⟨by decide, by decide, by decide⟩, fun i => ⟨(zz (b := 255) (by decide) (by decide) i).1, (zz (a := 0) (by decide) (by decide) i).2, rfl⟩⟩
  · exact ⟨⟨by decide, by decide, by decide⟩, fun t h => no0 h⟩
  · exact ⟨⟨by decide, by decide, by decide, by decide⟩, ⟨rfl, rfl, rfl, rfl, rfl, rfl⟩, fun i h => no0 h⟩
  · exact ⟨⟨by decide, by decide, by decide⟩, ⟨rfl, rfl, rfl, rfl⟩, fun i h => no0 h, fun i => ⟨Int.le_refl 0, (by decide : (0 : Int) < 2147483648)⟩, by decide, by decide, by decide⟩
  · exact ⟨⟨by decide, by decide, by decide⟩, fun p _ => ⟨rfl, rfl⟩⟩
  · exact ⟨⟨rfl, rfl, rfl, rfl⟩, by decide, fun i => zz (by decide) (by decide) i, fun i => zz (by decide) (by decide) i, fun i => zz (by decide) (by decide) i⟩
  · exact fun i => zz (by decide) (by decide) i
  · exact fun i => zz (by decide) (by decide) i
