/-! a log becomes something else -/
def nil01 (x : Int) : Int := if x = 0 then 1 else 0
def bcx (S : St) (l : Nat) (x : Int) (cell : Nat) (ly : Int) (c : Nat) (td kd : Int) : St := st (st (st (st (st (st S 31 0 cell ly) 4 l 8 x) 35 l c x) 36 l c td) 37 l c kd) 4 l 9 (c + 1)
theorem sx_become {S : St} {l cell c : Nat} {x s td : Int} {Q : St → Prop} (hl : S 50 4 l ≠ 0) (h8 : S 4 l 8 = s) (hs : inR s) (hx : inR x) (h5 : S 4 l 5 = cell) (hc : cell ≤ 63) (h9 : S 4 l 9 = c) (hn : c < 4) (hm : 0 ≤ S 3 0 6 ∧ S 3 0 6 ≤ 63) (ht : S 7 0 3 = td) (q : Q (bcx S l x cell (S 31 0 cell + (nil01 x - nil01 s)) c td (td + Int.tdiv (apv cell (S 3 0 6)) 4))) : wp_X11_become S l x Q := by
  have go : ∀ a b : Int, b - a = nil01 x - nil01 s → wp_X11_become_22 Q S l x a b := by
    intro a b eab
    unfold wp_X11_become_22 wp_X3_far wp_X4_change
    rw [h5, Int.toNat_natCast]
    refine ⟨hl, by omega, by omega, by omega, by omega, fun s1 e1 => ?_⟩
    have r4 : s1 4 = S 4 := by rw [e1, rs_ne (by decide)]
    have r50 : s1 50 = S 50 := by rw [e1, rs_ne (by decide)]
    have r3 : s1 3 = S 3 := by rw [e1, rs_ne (by decide)]
    have r7 : s1 7 = S 7 := by rw [e1, rs_ne (by decide)]
    have ab := apv_b (a := (cell : Int)) (b := S 3 0 6) (by omega) (by omega) hm.1 hm.2
    rw [r4, r50, r3, r7, h5, ht]
    refine ⟨hl, sx_apart (by omega) (by omega) hm.1 hm.2 ⟨⟨by omega, by omega⟩, by rw [r50]; exact hl, by rw [r50]; exact hl, fun s2 e2 => ?_⟩⟩
    have q50 : s2 50 = S 50 := by rw [e2, rs_ne (by decide), r50]
    have q9 : s2 4 l 9 = (c : Int) := by rw [e2, rs_eq, up_ne (by decide), r4, h9]
    rw [q50, q9, Int.toNat_natCast]
    refine ⟨hl, ⟨by omega, by omega⟩, fun z => absurd z (by omega), fun _ => ⟨hl, hl, hl, by omega, by omega, fun s3 e3 => ?_⟩⟩
    have w50 : s3 50 = S 50 := by rw [e3, rs_ne (by decide), q50]
    have w9 : s3 4 l 9 = (c : Int) := by rw [e3, rs_ne (by decide), q9]
    rw [w50, w9, Int.toNat_natCast]
    refine ⟨hl, hl, hl, by omega, by omega, fun s4 e4 => ?_⟩
    have y50 : s4 50 = S 50 := by rw [e4, rs_ne (by decide), w50]
    have y9 : s4 4 l 9 = (c : Int) := by rw [e4, rs_ne (by decide), w9]
    rw [y50, y9, Int.toNat_natCast]
    refine ⟨hl, hl, hl, by omega, by omega, fun s5 e5 => ?_⟩
    have z50 : s5 50 = S 50 := by rw [e5, rs_ne (by decide), y50]
    have z9 : s5 4 l 9 = (c : Int) := by rw [e5, rs_ne (by decide), y9]
    rw [z50, z9]
    refine ⟨hl, hl, fun s6 e6 => ?_⟩
    rw [e6, e5, e4, e3, e2, e1, eab]
    exact q
  unfold wp_X11_become wp_X11_become_12
  rw [h8]
  unfold nil01 at go
  refine ⟨hl, hs, fun y => ⟨hx, fun z => go 0 0 ?_, fun z => go 0 1 ?_⟩, fun y => ⟨hx, fun z => go 1 0 ?_, fun z => go 1 1 ?_⟩⟩
  · rw [if_neg z, if_neg y]
  · rw [if_pos z, if_neg y]
  · rw [if_neg z, if_pos y]
  · rw [if_pos z, if_pos y]
def bcm (S : St) (l k : Nat) (x td kd : Int) : St := st (st (st S 102 0 l x) 104 0 (5 * l + k) td) 105 0 (5 * l + k) kd
theorem sm_becomes {S : St} {l k : Nat} {x td cell : Int} {Q : St → Prop} (hl : l < 300) (ek : x = k) (hk : k < 5) (h5 : S 95 0 l = cell) (hc : 0 ≤ cell ∧ cell ≤ 63) (hm : 0 ≤ S 12 0 7 ∧ S 12 0 7 ≤ 63) (ht : S 12 0 1 = td) (q : Q (bcm S l k x td (td + Int.tdiv (apv cell (S 12 0 7)) 4))) : wp_X12_becomes S l x Q := by
  have ei : Int.toNat (5 * (l : Int) + x) = 5 * l + k := by omega
  unfold wp_X12_becomes
  rw [ei, Int.toNat_natCast]
  refine ⟨by omega, by omega, fun s1 e1 => ⟨by omega, by omega, fun s2 e2 => ?_⟩⟩
  have r12 : s1 12 = S 12 := by rw [e1, rs_ne (by decide)]
  have q12 : s2 12 = S 12 := by rw [e2, rs_ne (by decide), r12]
  have q95 : s2 95 = S 95 := by rw [e2, rs_ne (by decide), e1, rs_ne (by decide)]
  have ab := apv_b (a := cell) (b := S 12 0 7) hc.1 hc.2 hm.1 hm.2
  rw [q95, h5]
  refine ⟨by omega, by omega, sm_farOf hc.1 hc.2 (by rw [q12]; exact hm.1) (by rw [q12]; exact hm.2) ?_⟩
  rw [q12, ht]
  refine ⟨⟨by omega, by omega⟩, by omega, by omega, fun s3 e3 => ?_⟩
  rw [e3, e2, r12, ht, e1]
  exact q
theorem LogB_step {g to dy kn ch kf : Nat → Int} {cell came s x td kd : Int} (h : LogB g to dy kn cell came s ch kf) (hs : (s = 0 ∧ (x = 1 ∨ x = 3 ∨ x = 4)) ∨ (s = 1 ∧ x = 2)) (ht : 0 ≤ td ∧ td ≤ 3999) (hk : 0 ≤ kd ∧ kd ≤ 4010) :
    LogB (up (up g 8 x) 9 (g 9 + 1)) (up to (g 9).toNat x) (up dy (g 9).toNat td) (up kn (g 9).toNat kd) cell came x (up ch x.toNat td) (up kf x.toNat kd) := by
  obtain ⟨⟨g5, g7, g8⟩, ⟨h0, hh⟩, hc, hb⟩ := h
  have b3 : ∀ k, k < 5 → -1 ≤ up ch x.toNat td k ∧ up ch x.toNat td k ≤ 3999 ∧ 0 ≤ up kf x.toNat kd k ∧ up kf x.toNat kd k ≤ 4010 := by
    intro k hk5
    have b := hb k hk5
    unfold up
    split <;> omega
  refine ⟨⟨g5, g7, rfl⟩, ?_, hc, b3⟩
  clear b3 hb hc g5 g7 g8
  unfold Hist
  rcases hs with ⟨s0, x1 | x1 | x1⟩ | ⟨s0, x1⟩
  all_goals subst s0 x1
  · have e : g 9 = 1 ∧ ch 2 = -1 ∧ ch 3 = -1 ∧ ch 4 = -1 := by
      rcases hh with h | h | h | h | h <;> omega
    obtain ⟨e1, e2, e3, e4⟩ := e
    rw [e1]
    exact ⟨h0, Or.inr (Or.inl ⟨rfl, rfl, ⟨rfl, rfl, rfl, ht.1⟩, e2, e3, e4⟩)⟩
  · have e : g 9 = 1 ∧ ch 1 = -1 ∧ ch 2 = -1 ∧ ch 4 = -1 := by
      rcases hh with h | h | h | h | h <;> omega
    obtain ⟨e1, e2, e3, e4⟩ := e
    rw [e1]
    exact ⟨h0, Or.inr (Or.inr (Or.inr (Or.inl ⟨rfl, rfl, ⟨rfl, rfl, rfl, ht.1⟩, e2, e3, e4⟩)))⟩
  · have e : g 9 = 1 ∧ ch 1 = -1 ∧ ch 2 = -1 ∧ ch 3 = -1 := by
      rcases hh with h | h | h | h | h <;> omega
    obtain ⟨e1, e2, e3, e4⟩ := e
    rw [e1]
    exact ⟨h0, Or.inr (Or.inr (Or.inr (Or.inr ⟨rfl, rfl, ⟨rfl, rfl, rfl, ht.1⟩, e2, e3, e4⟩)))⟩
  · have e : g 9 = 2 ∧ (to 1 = 1 ∧ dy 1 = ch 1 ∧ kn 1 = kf 1 ∧ 0 ≤ ch 1) ∧ ch 3 = -1 ∧ ch 4 = -1 := by
      rcases hh with h | h | h | h | h <;> omega
    obtain ⟨e1, e2, e3, e4⟩ := e
    rw [e1]
    exact ⟨h0, Or.inr (Or.inr (Or.inl ⟨rfl, rfl, e2, ⟨rfl, rfl, rfl, ht.1⟩, e3, e4⟩))⟩
theorem I_logB_step {lc x td kd c1 : Int} {G TO DY KN : Nat → Nat → Int} {cell came state ch kf : Nat → Int} {l c k : Nat} (h : I_logB lc G TO DY KN cell came state ch kf) (hl : (l : Int) < lc) (hs : (state l = 0 ∧ (x = 1 ∨ x = 3 ∨ x = 4)) ∨ (state l = 1 ∧ x = 2)) (hc : G l 9 = c) (hc1 : c1 = (c : Int) + 1) (ek : x = k) (ht : 0 ≤ td ∧ td ≤ 3999) (hk : 0 ≤ kd ∧ kd ≤ 4010) :
    I_logB lc (upj (upj G l 8 x) l 9 c1) (upj TO l c x) (upj DY l c td) (upj KN l c kd) cell came (up state l x) (up ch (5 * l + k) td) (up kf (5 * l + k) kd) := by
  intro i hi
  have b := h i hi
  by_cases e : i = l
  · subst e
    have b2 := LogB_step b hs ht hk
    rw [hc, Int.toNat_natCast, show x.toNat = k by omega, ← hc1] at b2
    have ef : ∀ (f : Nat → Int) (v : Int), (fun q => up f (5 * i + k) v (5 * i + q)) = up (fun q => f (5 * i + q)) k v := by
      intro f v
      funext q
      by_cases w : q = k
      · rw [w, up_eq, up_eq]
      · rw [up_ne w]
        show up f _ v _ = _
        rw [up_ne (by omega)]
    rw [upj_eq, upj_eq, upj_eq, upj_eq, upj_eq, up_eq, ef, ef]
    exact b2
  · rw [upj_ne e, upj_ne e, upj_ne e, upj_ne e, upj_ne e, up_ne e]
    have k5 : k < 5 := by omega
    obtain ⟨b1, ⟨b2, b3⟩, b4, b5⟩ := b
    have ec : ∀ q, q < 5 → up ch (5 * l + k) td (5 * i + q) = ch (5 * i + q) := fun q hq => up_ne (by omega)
    have ek : ∀ q, q < 5 → up kf (5 * l + k) kd (5 * i + q) = kf (5 * i + q) := fun q hq => up_ne (by omega)
    refine ⟨b1, ?_, b4, fun q hq => ?_⟩
    · unfold Hist
      dsimp only
      rw [ec 0 (by decide), ec 1 (by decide), ec 2 (by decide), ec 3 (by decide), ec 4 (by decide), ek 0 (by decide), ek 1 (by decide), ek 2 (by decide), ek 3 (by decide), ek 4 (by decide)]
      exact ⟨b2, b3⟩
    · dsimp only
      rw [ec q hq, ek q hq]
      exact b5 q hq
theorem I_logA_step {lc x v : Int} {G RG : Nat → Nat → Int} {sort units wide day brand fault reg s1 s2 : Nat → Int} {l : Nat} (h : I_logA lc G RG sort units wide day brand fault reg s1 s2) : I_logA lc (upj (upj G l 8 x) l 9 v) RG sort units wide day brand fault reg s1 s2 := by
  intro i hi
  have b := h i hi
  by_cases e : i = l
  · subst e
    rw [upj_eq, upj_eq]
    exact b
  · rw [upj_ne e, upj_ne e]
    exact b
theorem lies_up {state cell : Nat → Int} {c x : Int} {l : Nat} : ∀ n, lies (up state l x) cell c n = lies state cell c n + (if l < n ∧ cell l = c then nil01 x - nil01 (state l) else 0) := by
  intro n
  induction n with
  | zero =>
    rw [if_neg (by omega)]
    rfl
  | succ n ih =>
    have e1 : lies (up state l x) cell c (n + 1) = lies (up state l x) cell c n + (if up state l x n = 0 ∧ cell n = c then 1 else 0) := rfl
    have e2 : lies state cell c (n + 1) = lies state cell c n + (if state n = 0 ∧ cell n = c then 1 else 0) := rfl
    rw [e1, e2, ih]
    unfold nil01
    by_cases e : n = l
    · rw [e, up_eq]
      by_cases w : cell l = c <;> by_cases w2 : x = 0 <;> by_cases w3 : state l = 0 <;> simp [w, w2, w3] <;> omega
    · rw [up_ne e]
      by_cases w : l < n
      · have w2 : l < n + 1 := by omega
        simp only [w, w2, true_and]
        omega
      · have w2 : ¬ l < n + 1 := by omega
        simp only [w, w2, false_and, if_false]
        omega
theorem I_lying_step {lc x v : Int} {ly state cell : Nat → Int} {l c : Nat} (h : I_lying lc ly state cell) (hl : (l : Int) < lc) (hc : cell l = c) (hv : v = ly c + (nil01 x - nil01 (state l))) : I_lying lc (up ly c v) (up state l x) cell := by
  intro a ha
  have b := h a ha
  rw [lies_up, ← b]
  by_cases e : a = c
  · rw [e, up_eq, if_pos ⟨by omega, hc⟩, hv]
  · rw [up_ne e, if_neg (fun z => e (by omega)), Int.add_zero]
