/-! feed -/
def wrt (f : Nat → Int) (z : Nat) (B : Nat → Int) : Nat → Nat → Int
  | 0 => f
  | m + 1 => up (wrt f z B m) (z + m) (B m)
def stF (σ : St) (f : Nat → Int) (z : Nat) : St := st (sta σ 76 0 f) 9 0 1 z
def stG (σ : St) (f : Nat → Int) (z : Nat) : St := st (sta σ 118 0 f) 12 0 44 z
theorem ap_step {σ : St} {f : Nat → Int} {x b : Int} {z s n : Nat} {Q : St → Prop} (hz : z < 300) (hs : s ≤ 24) (eb : b = i_iand (i_iushr x s) 255) (h : wp_X9_append_3 Q n (stF σ (up f z b) (z + 1)) x ((s : Int) + (-8))) : wp_X9_append_3 Q (n + 1) (stF σ f z) x s := by
  have r : stF σ f z 9 0 1 = (z : Int) := by unfold stF; rw [rs_eq, up_eq]
  unfold wp_X9_append_3
  rw [r, Int.toNat_natCast]
  refine ⟨⟨by omega, by omega⟩, fun y => absurd y (by omega), fun _ => ⟨⟨by omega, by omega⟩, fun y => absurd y (by omega), fun _ => ⟨by omega, by omega, fun s1 e1 s2 e2 => ?_⟩⟩⟩
  have r1 : s1 9 0 1 = (z : Int) := by rw [e1, rs_ne (by decide), r]
  rw [r1, e1] at e2
  unfold stF at e2
  rw [st_cm (by decide), st_st, st_cm (by decide), st_stae, ← eb] at e2
  rw [e2]
  unfold stF at h
  rw [show ((z + 1 : Nat) : Int) = (z : Int) + 1 by omega] at h
  exact h
theorem sx_append {σ : St} {f B : Nat → Int} {x : Int} {z m : Nat} {Q : St → Prop} (hz : z + m + 4 ≤ 300) (b0 : B m = i_iand (i_iushr x (24 : Nat)) 255) (b1 : B (m + 1) = i_iand (i_iushr x (16 : Nat)) 255) (b2 : B (m + 2) = i_iand (i_iushr x (8 : Nat)) 255) (b3 : B (m + 3) = i_iand (i_iushr x (0 : Nat)) 255) (q : Q (stF σ (wrt f z B (m + 4)) (z + (m + 4)))) : wp_X9_append (stF σ (wrt f z B m) (z + m)) x Q := by
  refine ⟨5, ?_⟩
  refine ap_step (s := 24) (by omega) (by decide) b0 ?_
  refine ap_step (s := 16) (by omega) (by decide) b1 ?_
  refine ap_step (s := 8) (by omega) (by decide) b2 ?_
  refine ap_step (s := 0) (by omega) (by decide) b3 ?_
  unfold wp_X9_append_3
  exact ⟨⟨by decide, by decide⟩, fun _ => q, fun y => absurd (by decide) y⟩
def wd5 (x1 x2 x3 x4 x5 : Int) (m : Nat) : Int := if 4 ≤ m then (if 8 ≤ m then (if 12 ≤ m then (if 16 ≤ m then x5 else x4) else x3) else x2) else x1
def byX (x1 x2 x3 x4 x5 : Int) (m : Nat) : Int := i_iand (i_iushr (wd5 x1 x2 x3 x4 x5 m) ((24 - 8 * (m % 4) : Nat) : Int)) 255
def byR (x1 x2 x3 x4 x5 : Int) (m : Nat) : Int := i_i2b (i_ishr (wd5 x1 x2 x3 x4 x5 m) ((24 - 8 * (m % 4) : Nat) : Int))
theorem fe_loop {σ : St} {f : Nat → Int} {x1 x2 x3 x4 x5 : Int} {z : Nat} {K : St → Prop} {Q : Int → St → Prop} (hz : z + 20 ≤ 300) (q : K (stG σ (wrt f z (byR x1 x2 x3 x4 x5) 20) (z + 20))) :
    ∀ (c m n : Nat), m + c = 20 → c < n → wp_X12_feed_20 K Q n (stG σ (wrt f z (byR x1 x2 x3 x4 x5) m) (z + m)) x1 x2 x3 x4 x5 m := by
  intro c
  induction c with
  | zero =>
    intro m n hm hn
    obtain ⟨n, rfl⟩ : ∃ n', n = n' + 1 := ⟨n - 1, by omega⟩
    have e : m = 20 := by omega
    subst e
    unfold wp_X12_feed_20
    exact ⟨⟨by decide, by decide⟩, fun _ => q, fun y => absurd (by decide) y⟩
  | succ c ih =>
    intro m n hm hn
    obtain ⟨n, rfl⟩ : ∃ n', n = n' + 1 := ⟨n - 1, by omega⟩
    have nx := ih (m + 1) n (by omega) (by omega)
    have go : ∀ y : Int, y = wd5 x1 x2 x3 x4 x5 m → wp_X12_feed_73 (fun σ x1 x2 x3 x4 x5 x6 => wp_X12_feed_20 K Q n σ x1 x2 x3 x4 x5 x6) K Q (stG σ (wrt f z (byR x1 x2 x3 x4 x5) m) (z + m)) x1 x2 x3 x4 x5 m y := by
      intro y ey
      have r : stG σ (wrt f z (byR x1 x2 x3 x4 x5) m) (z + m) 12 0 44 = ((z + m : Nat) : Int) := by unfold stG; rw [rs_eq, up_eq]
      unfold wp_X12_feed_73
      rw [r, Int.toNat_natCast, Int.tmod_eq_emod_of_nonneg (by omega), show (24 : Int) - 8 * ((m : Int) % 4) = ((24 - 8 * (m % 4) : Nat) : Int) by omega, ey, show ((m : Int) + 1) = ((m + 1 : Nat) : Int) by omega]
      refine ⟨⟨by omega, by omega⟩, by omega, by omega, fun s1 e1 s2 e2 => ?_⟩
      have r1 : s1 12 0 44 = ((z + m : Nat) : Int) := by rw [e1, rs_ne (by decide), r]
      rw [r1, e1] at e2
      unfold stG at e2
      rw [st_cm (by decide), st_st, st_cm (by decide), st_stae, show ((z + m : Nat) : Int) + 1 = ((z + (m + 1) : Nat) : Int) by omega] at e2
      rw [e2]
      exact nx
    unfold wp_X12_feed_20
    unfold wd5 at go
    have i1 : inR (m : Int) := ⟨by omega, by omega⟩
    refine ⟨i1, fun y => absurd y (by omega), fun _ => ⟨i1, fun a => ⟨i1, fun b => ⟨i1, fun d => ⟨i1, fun e => go _ ?_, fun e => go _ ?_⟩, fun d => go _ ?_⟩, fun b => go _ ?_⟩, fun a => go _ ?_⟩⟩
    · rw [if_pos (by omega), if_pos (by omega), if_pos (by omega), if_pos (by omega)]
    · rw [if_pos (by omega), if_pos (by omega), if_pos (by omega), if_neg (by omega)]
    · rw [if_pos (by omega), if_pos (by omega), if_neg (by omega)]
    · rw [if_pos (by omega), if_neg (by omega)]
    · rw [if_neg (by omega)]
theorem wd5_in {x1 x2 x3 x4 x5 : Int} (h1 : inR x1) (h2 : inR x2) (h3 : inR x3) (h4 : inR x4) (h5 : inR x5) (m : Nat) : inR (wd5 x1 x2 x3 x4 x5 m) := by
  unfold wd5
  split
  · split
    · split
      · split
        · exact h5
        · exact h4
      · exact h3
    · exact h2
  · exact h1
theorem I_tape_feed {sz sz2 : Int} {b b2 B C : Nat → Int} {z : Nat} (h : I_tape sz sz2 b b2) (hz : z + 20 ≤ 300) (hB : ∀ m, 0 ≤ B m ∧ B m ≤ 255 ∧ C m = if B m < 128 then B m else B m - 256) : I_tape ((z + 20 : Nat) : Int) ((z + 20 : Nat) : Int) (wrt b z B 20) (wrt b2 z C 20) := by
  obtain ⟨-, h2⟩ := h
  refine ⟨⟨rfl, by omega, by omega⟩, ?_⟩
  have : ∀ m i, 0 ≤ wrt b z B m i ∧ wrt b z B m i ≤ 255 ∧ wrt b2 z C m i = if wrt b z B m i < 128 then wrt b z B m i else wrt b z B m i - 256 := by
    intro m
    induction m with
    | zero => exact h2
    | succ m ih =>
      intro i
      show 0 ≤ up (wrt b z B m) (z + m) (B m) i ∧ up (wrt b z B m) (z + m) (B m) i ≤ 255 ∧ up (wrt b2 z C m) (z + m) (C m) i = if up (wrt b z B m) (z + m) (B m) i < 128 then up (wrt b z B m) (z + m) (B m) i else up (wrt b z B m) (z + m) (B m) i - 256
      by_cases e : i = z + m
      · rw [e, up_eq, up_eq]
        exact hB m
      · rw [up_ne e, up_ne e]
        exact ih i
  exact this 20
theorem op_feed {n : Nat} {σ : St} {x1 x2 x3 x4 x5 : Int} (hI : Inv n σ) (h1 : inR x1) (h2 : inR x2) (h3 : inR x3) (h4 : inR x4) (h5 : inR x5) : wp_X11_feed σ x1 x2 x3 x4 x5 (fun r σ1 => wp_X12_feed σ1 x1 x2 x3 x4 x5 (fun r2 σ2 => r2 = r ∧ Inv (n + 1) σ2)) := by
  have hI0 := hI
  obtain ⟨a_sky, a_land, a_price, a_ints, a_logA, a_logB, a_live, a_lying, a_ways, a_crews, a_dbl, a_tape, a_law, a_ord, a_spur, a_cuts, a_cru, a_kf, a_tn⟩ := hI
  obtain ⟨⟨c1, c2, c3⟩, c4⟩ := id a_tape
  unfold wp_X11_feed
  refine ⟨⟨by omega, by omega⟩, fun y => ?_, fun y => ?_⟩
  · obtain ⟨z, ez⟩ : ∃ z : Nat, σ 9 0 1 = z := ⟨(σ 9 0 1).toNat, by omega⟩
    have e0 : stF σ (wrt (σ 76 0) z (byX x1 x2 x3 x4 x5) 0) (z + 0) = σ := by
      unfold stF
      show st (sta σ 76 0 (σ 76 0)) 9 0 1 (z : Int) = σ
      rw [sta_self, ← ez, st_self]
    rw [← e0]
    refine sx_append (m := 0) (by omega) rfl rfl rfl rfl ?_
    refine sx_append (m := 4) (by omega) rfl rfl rfl rfl ?_
    refine sx_append (m := 8) (by omega) rfl rfl rfl rfl ?_
    refine sx_append (m := 12) (by omega) rfl rfl rfl rfl ?_
    refine sx_append (m := 16) (by omega) rfl rfl rfl rfl ?_
    obtain ⟨S, eS⟩ : ∃ S : St, S = stF σ (wrt (σ 76 0) z (byX x1 x2 x3 x4 x5) 20) (z + 20) := ⟨_, rfl⟩
    show wp_X12_feed (stF σ (wrt (σ 76 0) z (byX x1 x2 x3 x4 x5) 20) (z + 20)) x1 x2 x3 x4 x5 (fun r2 σ2 => r2 = stF σ (wrt (σ 76 0) z (byX x1 x2 x3 x4 x5) 20) (z + 20) 9 0 1 ∧ Inv (n + 1) σ2)
    rw [← eS]
    have rS : S 9 0 1 = ((z + 20 : Nat) : Int) := by rw [eS]; unfold stF; rw [rs_eq, up_eq]
    rw [rS]
    intro τ eτ
    have t44 : τ 12 0 44 = (z : Int) := by
      rw [eτ, rs_eq, up_ne (by decide), eS]
      unfold stF
      rw [rs_ne (by decide), ra_ne (by decide)]
      omega
    have t118 : τ 118 0 = σ 118 0 := by
      rw [eτ, rs_ne (by decide), eS]
      unfold stF
      rw [rs_ne (by decide), ra_ne (by decide)]
    rw [t44]
    refine ⟨⟨by omega, by omega⟩, fun _ => ⟨22, ?_⟩, fun w => absurd (by omega) w⟩
    have E := fe_loop (σ := τ) (f := σ 118 0) (x1 := x1) (x2 := x2) (x3 := x3) (x4 := x4) (x5 := x5) (z := z) (K := wp_X12_feed_114 (fun r2 σ2 => r2 = ((z + 20 : Nat) : Int) ∧ Inv (n + 1) σ2)) (Q := fun r2 σ2 => r2 = ((z + 20 : Nat) : Int) ∧ Inv (n + 1) σ2) (by omega) ?_ 20 0 22 (by omega) (by omega)
    · have e1 : stG τ (wrt (σ 118 0) z (byR x1 x2 x3 x4 x5) 0) (z + 0) = τ := by
        unfold stG
        show st (sta τ 118 0 (σ 118 0)) 12 0 44 (z : Int) = τ
        rw [← t118, sta_self, ← t44, st_self]
      rw [e1] at E
      exact E
    · unfold wp_X12_feed_114
      refine ⟨by unfold stG; rw [rs_eq, up_eq], ?_⟩
      rw [eτ, eS]
      have ht := I_tape_feed (z := z) (B := byX x1 x2 x3 x4 x5) (C := byR x1 x2 x3 x4 x5) a_tape (by omega) (fun m => byte_law (wd5_in h1 h2 h3 h4 h5 m) (by omega) rfl)
      unfold stG stF
      unfold Inv
      simp (decide := true) only [rs_ne, rs_fn, upj_eq, upj_ne, up_eq, up_ne, ra_ne, ra_fn, upr_eq, upr_ne, not_false_eq_true, ne_eq]
      refine ⟨?_, ?_, ?_, ?_, ?_, ?_, ?_, ?_, ?_, ?_, ?_, ?_, ?_, ?_, ?_, ?_, ?_, ?_, ?_⟩
      · exact a_sky
      · exact a_land
      · exact a_price
      · exact I_ints_up a_ints
      · exact a_logA
      · exact a_logB
      · exact a_live
      · exact a_lying
      · exact a_ways
      · exact a_crews
      · exact a_dbl
      · exact ht
      · exact a_law
      · exact a_ord
      · exact a_spur
      · exact a_cuts
      · exact a_cru
      · exact a_kf
      · exact a_tn
  · intro τ eτ
    have t44 : τ 12 0 44 = σ 12 0 44 := by rw [eτ, rs_eq, up_ne (by decide)]
    rw [t44]
    exact ⟨⟨by omega, by omega⟩, fun w => absurd w (by omega), fun _ => ⟨rfl, by rw [eτ]; exact Inv_t hI0⟩⟩
