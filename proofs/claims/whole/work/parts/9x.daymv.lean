/-! a day goes by: one log is carried, of the class -/
theorem lies_cell {state cell : Nat → Int} {c to : Int} {l : Nat} : ∀ n, lies state (up cell l to) c n = lies state cell c n + (if l < n ∧ state l = 0 then (if to = c then 1 else 0) - (if cell l = c then 1 else 0) else 0) := by
  intro n
  induction n with
  | zero =>
    rw [if_neg (by omega)]
    rfl
  | succ n ih =>
    have e1 : lies state (up cell l to) c (n + 1) = lies state (up cell l to) c n + (if state n = 0 ∧ up cell l to n = c then 1 else 0) := rfl
    have e2 : lies state cell c (n + 1) = lies state cell c n + (if state n = 0 ∧ cell n = c then 1 else 0) := rfl
    rw [e1, e2, ih]
    by_cases e : n = l
    · rw [e, up_eq]
      by_cases w : cell l = c <;> by_cases w2 : to = c <;> by_cases w3 : state l = 0 <;> simp [w, w2, w3] <;> omega
    · rw [up_ne e]
      by_cases w : l < n
      · have w2 : l < n + 1 := by omega
        simp only [w, w2, true_and]
        omega
      · have w2 : ¬ l < n + 1 := by omega
        simp only [w, w2, false_and, if_false]
        omega
theorem I_lying_move {lc v : Int} {ly state cell : Nat → Int} {l fr to : Nat} (h : I_lying lc ly state cell) (hl : (l : Int) < lc) (hs : state l = 0) (hc : cell l = fr) (hv : v = up ly fr (ly fr - 1) to + 1) : I_lying lc (up (up ly fr (ly fr - 1)) to v) state (up cell l to) := by
  intro a ha
  have b := h a ha
  rw [lies_cell, ← b, if_pos ⟨by omega, hs⟩, hc, hv]
  by_cases e : a = to
  · subst e
    rw [up_eq, if_pos rfl]
    by_cases e2 : a = fr
    · subst e2
      rw [up_eq, if_pos rfl]
      omega
    · rw [up_ne e2, if_neg (by omega)]
      omega
  · rw [up_ne e, if_neg (by omega)]
    by_cases e2 : a = fr
    · subst e2
      rw [up_eq, if_pos rfl]
      omega
    · rw [up_ne e2, if_neg (by omega)]
      omega
theorem I_logA_mv {lc x v : Int} {G RG : Nat → Nat → Int} {sort units wide day brand fault reg s1 s2 : Nat → Int} {l : Nat} (h : I_logA lc G RG sort units wide day brand fault reg s1 s2) : I_logA lc (upj (upj G l 5 x) l 7 v) RG sort units wide day brand fault reg s1 s2 := by
  intro i hi
  have b := h i hi
  by_cases e : i = l
  · subst e
    rw [upj_eq, upj_eq]
    exact b
  · rw [upj_ne e, upj_ne e]
    exact b
theorem I_logB_mv {lc x td : Int} {G TO DY KN : Nat → Nat → Int} {cell came state ch kf : Nat → Int} {l : Nat} (h : I_logB lc G TO DY KN cell came state ch kf) (hx : 0 ≤ x ∧ x ≤ 63) (ht : 0 ≤ td ∧ td ≤ 3999) : I_logB lc (upj (upj G l 5 x) l 7 td) TO DY KN (up cell l x) (up came l td) state ch kf := by
  intro i hi
  have b := h i hi
  by_cases e : i = l
  · subst e
    rw [upj_eq, upj_eq, up_eq, up_eq]
    obtain ⟨⟨b1, b2, b3⟩, b4, b5, b6⟩ := b
    exact ⟨⟨rfl, rfl, b3⟩, b4, ⟨hx.1, hx.2, ht.1, ht.2⟩, b6⟩
  · rw [upj_ne e, upj_ne e, up_ne e, up_ne e]
    exact b
def mvX (S : St) (l fr to : Nat) (td : Int) : St := st (st (st (st S 31 0 fr (S 31 0 fr - 1)) 31 0 to (up (S 31 0) fr (S 31 0 fr - 1) to + 1)) 4 l 5 to) 4 l 7 td
def mvM (V : St) (l : Nat) (to td : Int) : St := st (st V 95 0 l to) 103 0 l td
theorem RelL_mv {S V : St} {l fr to : Nat} {td : Int} (h : RelL S V) (hl : (l : Int) < S 11 0 4) (hs : V 102 0 l = 0) (hc : V 95 0 l = fr) (ht : to < 64) (htd : 0 ≤ td ∧ td ≤ 3999) : RelL (mvX S l fr to td) (mvM V l to td) := by
  obtain ⟨hA, hB, hV, hY, hK⟩ := h
  unfold RelL mvX mvM
  simp (decide := true) only [rs_ne, rs_fn, upj_eq, upj_ne, up_eq, up_ne, not_false_eq_true, ne_eq]
  exact ⟨I_logA_mv hA, I_logB_mv hB (by omega) htd, hV, I_lying_move hY hl hs hc rfl, hK⟩
theorem RelL_bc {S V : St} {l cell c k : Nat} {x td kd ly : Int} (h : RelL S V) (hl : (l : Int) < S 11 0 4) (hs : (V 102 0 l = 0 ∧ (x = 1 ∨ x = 3 ∨ x = 4)) ∨ (V 102 0 l = 1 ∧ x = 2)) (h9 : S 4 l 9 = c) (h5 : V 95 0 l = cell) (hly : ly = S 31 0 cell + (nil01 x - nil01 (V 102 0 l))) (ek : x = k) (ht : 0 ≤ td ∧ td ≤ 3999) (hk : 0 ≤ kd ∧ kd ≤ 4010) : RelL (bcx S l x cell ly c td kd) (bcm V l k x td kd) := by
  obtain ⟨hA, hB, hV, hY, hK⟩ := h
  unfold RelL bcx bcm
  simp (decide := true) only [rs_ne, rs_fn, upj_eq, upj_ne, up_eq, up_ne, not_false_eq_true, ne_eq]
  exact ⟨I_logA_step hA, I_logB_step hB hl hs h9 rfl ek ht hk, hV, I_lying_step hY hl h5 hly, I_kf_up hK hk⟩
/-- the ghost's step: log l goes to `to` -/
def dyG (V : St) (td mill to snk : Int) (wd : Nat → Int) (l : Nat) : St := if snk = 1 ∧ 30 < wd l then bcm (mvM V l to td) l 4 4 td (td + Int.tdiv (apv to mill) 4) else mvM V l to td
theorem sx_moveLog {S V : St} {l w fr to : Nat} {td mill snk : Int} {Q : St → Prop} (hR : RelL S V) (hl : (l : Int) < S 11 0 4) (hs : V 102 0 l = 0) (hc : V 95 0 l = fr) (hfr : fr < 64) (ht : to < 64) (hw : S 50 10 w ≠ 0) (h2 : S 10 w 2 = to) (h0 : inR (S 10 w 0)) (hsk : SkyX (S 7 0) (S 64 0) (S 65 0)) (htd : S 7 0 3 = td) (hb : 0 ≤ td ∧ td ≤ 3999) (hmi : S 3 0 6 = mill) (hm : 0 ≤ mill ∧ mill ≤ 63) (h1 : snk = 1 ↔ S 10 w 0 = 4 ∧ wea S 1 = 9)
    (q : ∀ S', RelL S' (dyG V td mill to snk (V 98 0) l) → (∀ k, ¬ k = 4 → ¬ k = 31 → ¬ k = 35 → ¬ k = 36 → ¬ k = 37 → S' k = S k) → Q S') : wp_X11_moveLog S l w Q := by
  have hR0 := hR
  obtain ⟨hA, hB, ⟨v1, v2, v3, v4⟩, hY, hK⟩ := hR
  obtain ⟨⟨a0, a1, a2, -⟩, -, -, aw⟩ := hA l hl
  obtain ⟨⟨b5, b7, b8⟩, ⟨-, gh⟩, -⟩ := hB l hl
  have lv := (v3 l hl).2
  unfold wp_X11_moveLog
  rw [b5, hc, Int.toNat_natCast]
  refine ⟨lv, by omega, by omega, by omega, by omega, fun s6 e6 => ?_⟩
  have p50 : s6 50 = S 50 := by rw [e6, rs_ne (by decide)]
  have p10 : s6 10 = S 10 := by rw [e6, rs_ne (by decide)]
  have p31 : s6 31 0 = up (S 31 0) fr (S 31 0 fr - 1) := by rw [e6, rs_eq]
  rw [p50, p10, h2, Int.toNat_natCast, p31]
  refine ⟨hw, by omega, by omega, by omega, by omega, fun s12 e12 => ?_⟩
  have r50 : s12 50 = S 50 := by rw [e12, rs_ne (by decide), p50]
  have r10 : s12 10 = S 10 := by rw [e12, rs_ne (by decide), p10]
  rw [r50, r10, h2]
  refine ⟨hw, lv, fun s15 e15 => ?_⟩
  have t50 : s15 50 = S 50 := by rw [e15, rs_ne (by decide), r50]
  have t7 : s15 7 0 3 = td := by rw [e15, rs_ne (by decide), e12, rs_ne (by decide), e6, rs_ne (by decide), htd]
  rw [t50, t7]
  refine ⟨lv, fun s17 e17 => ?_⟩
  have eX : s17 = mvX S l fr to td := by
    rw [e17, e15, e12, e6]
    rfl
  have k17 : ∀ k, ¬ k = 4 → ¬ k = 31 → s17 k = S k := fun k z1 z2 => by rw [e17, rs_ne z1, e15, rs_ne z1, e12, rs_ne z2, e6, rs_ne z2]
  have hR2 := RelL_mv hR0 hl hs hc ht hb
  rw [← eX] at hR2
  have w98 : mvM V l to td 98 = V 98 := by unfold mvM; rw [rs_ne (by decide), rs_ne (by decide)]
  rw [k17 50 (by decide) (by decide), k17 10 (by decide) (by decide)]
  refine ⟨hw, h0, fun z => ?_, fun z => ?_⟩
  · have ns : ¬ (snk = 1 ∧ 30 < V 98 0 l) := fun y => z (h1.1 y.1).1
    refine q s17 (by unfold dyG; rw [if_neg ns]; exact hR2) (fun k z1 z2 _ _ _ => k17 k z1 z2)
  · have ew : wea s17 1 = wea S 1 := by
      unfold wea
      rw [k17 7 (by decide) (by decide), k17 64 (by decide) (by decide), k17 65 (by decide) (by decide)]
    refine sx_now (by rw [k17 7 (by decide) (by decide), k17 64 (by decide) (by decide), k17 65 (by decide) (by decide)]; exact hsk) (by decide) (by decide) ?_
    have wi := wea_in hsk 1
    have m4 : s17 4 l 2 = V 98 0 l := by rw [e17, rs_eq, up_ne (by decide), e15, rs_eq, up_ne (by decide), e12, rs_ne (by decide), e6, rs_ne (by decide), a2]
    rw [ew, m4, k17 50 (by decide) (by decide)]
    refine ⟨⟨by omega, by omega⟩, fun y => ?_, fun y => ⟨lv, ⟨by omega, by omega⟩, fun x => ?_, fun x => ?_⟩⟩
    · have ns : ¬ (snk = 1 ∧ 30 < V 98 0 l) := fun u => y (h1.1 u.1).2
      refine q s17 (by unfold dyG; rw [if_neg ns]; exact hR2) (fun k z1 z2 _ _ _ => k17 k z1 z2)
    · have ns : ¬ (snk = 1 ∧ 30 < V 98 0 l) := fun u => by omega
      refine q s17 (by unfold dyG; rw [if_neg ns]; exact hR2) (fun k z1 z2 _ _ _ => k17 k z1 z2)
    · have ys : snk = 1 ∧ 30 < V 98 0 l := ⟨h1.2 ⟨z, y⟩, by omega⟩
      have n8 : s17 4 l 8 = 0 := by rw [e17, rs_eq, up_ne (by decide), e15, rs_eq, up_ne (by decide), e12, rs_ne (by decide), e6, rs_ne (by decide), b8, hs]
      have n5 : s17 4 l 5 = to := by rw [e17, rs_eq, up_ne (by decide), e15, rs_eq, up_eq]
      have g9 : S 4 l 9 = 1 := by
        rw [hs] at gh
        rcases gh with h | h | h | h | h
        · exact h.2.1
        all_goals omega
      have n9 : s17 4 l 9 = ((1 : Nat) : Int) := by rw [e17, rs_eq, up_ne (by decide), e15, rs_eq, up_ne (by decide), e12, rs_ne (by decide), e6, rs_ne (by decide), g9]; rfl
      have u102 : mvM V l to td 102 0 l = 0 := by unfold mvM; rw [rs_ne (by decide), rs_ne (by decide), hs]
      have u95 : mvM V l to td 95 0 l = to := by unfold mvM; rw [rs_ne (by decide), rs_eq, up_eq]
      have kb := apv_kd (ce := to) (by omega) hm hb
      refine sx_become (s := 0) (cell := to) (c := 1) (td := td) (by rw [k17 50 (by decide) (by decide)]; exact lv) n8 in0 ⟨by decide, by decide⟩ n5 (by omega) n9 (by decide) (by rw [k17 3 (by decide) (by decide), hmi]; exact hm) (by rw [k17 7 (by decide) (by decide)]; exact htd) ?_
      rw [k17 3 (by decide) (by decide), hmi]
      refine q _ ?_ (fun k z1 z2 z3 z4 z5 => ?_)
      · unfold dyG
        rw [if_pos ys]
        exact RelL_bc hR2 (by rw [k17 11 (by decide) (by decide)]; exact hl) (Or.inl ⟨u102, Or.inr (Or.inr rfl)⟩) n9 u95 (by rw [u102]) rfl hb kb
      · unfold bcx
        rw [rs_ne z1, rs_ne z5, rs_ne z4, rs_ne z3, rs_ne z1, rs_ne z2]
        exact k17 k z1 z2
