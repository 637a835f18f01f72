/-! a new log: what is kept of it -/
theorem I_live_push {lc lc2 : Int} {f77 a4 a5 : Nat → Int} (h : I_live lc lc2 f77 a4 a5) (hl : lc < 300) : I_live (lc + 1) (lc2 + 1) (up f77 lc.toNat 1) (up a4 lc.toNat 1) (up a5 lc.toNat 1) := by
  obtain ⟨h1, h2, h3, h4⟩ := h
  refine ⟨by omega, by omega, fun i hi => ?_, fun i hi => ?_⟩
  · by_cases e : i = lc.toNat
    · rw [e, up_eq, up_eq]
      exact ⟨by decide, by decide⟩
    · rw [up_ne e, up_ne e]
      exact h3 i (by omega)
  · rw [up_ne (by omega), up_ne (by omega)]
    exact h4 i (by omega)
theorem I_logA_push {lc : Int} {l : Nat} {G RG G' RG' : Nat → Nat → Int} {sort units wide day brand fault reg reg' s1 s2 : Nat → Int} {so un wi da br fa c1 c2 : Int} (h : I_logA lc G RG sort units wide day brand fault reg s1 s2) (hl : lc = l) (hG : ∀ i, i < l → G' i = G i ∧ RG' i = RG i) (hr : ∀ k, k < 5 * l → reg' k = reg k) (hn : LogA (G' l) (RG' l) so un wi da br fa (fun k => reg' (5 * l + k)) c1 c2) : I_logA (lc + 1) G' RG' (up sort l so) (up units l un) (up wide l wi) (up day l da) (up brand l br) (up fault l fa) reg' (up s1 l c1) (up s2 l c2) := by
  intro i hi
  by_cases e : i = l
  · subst e
    rw [up_eq, up_eq, up_eq, up_eq, up_eq, up_eq, up_eq, up_eq]
    exact hn
  · obtain ⟨e1, e2⟩ := hG i (by omega)
    obtain ⟨b1, b2, b3⟩ := h i (by omega)
    rw [up_ne e, up_ne e, up_ne e, up_ne e, up_ne e, up_ne e, up_ne e, up_ne e, e1, e2]
    refine ⟨b1, fun k hk => ?_, b3⟩
    show RG i k = reg' (5 * i + k) ∧ _
    rw [hr (5 * i + k) (by omega)]
    exact b2 k hk
theorem I_logB_push {lc : Int} {l : Nat} {G TO DY KN G' TO' DY' KN' : Nat → Nat → Int} {cell came state ch kf ch' kf' : Nat → Int} {ce ca sa : Int} (h : I_logB lc G TO DY KN cell came state ch kf) (hl : lc = l) (hG : ∀ i, i < l → G' i = G i ∧ TO' i = TO i ∧ DY' i = DY i ∧ KN' i = KN i) (hc : ∀ k, k < 5 * l → ch' k = ch k ∧ kf' k = kf k) (hn : LogB (G' l) (TO' l) (DY' l) (KN' l) ce ca sa (fun k => ch' (5 * l + k)) (fun k => kf' (5 * l + k))) : I_logB (lc + 1) G' TO' DY' KN' (up cell l ce) (up came l ca) (up state l sa) ch' kf' := by
  intro i hi
  by_cases e : i = l
  · subst e
    rw [up_eq, up_eq, up_eq]
    exact hn
  · obtain ⟨e1, e2, e3, e4⟩ := hG i (by omega)
    obtain ⟨b1, ⟨b2, b3⟩, b4, b5⟩ := h i (by omega)
    rw [up_ne e, up_ne e, up_ne e, e1, e2, e3, e4]
    have ec : ∀ q, q < 5 → ch' (5 * i + q) = ch (5 * i + q) := fun q hq => (hc _ (by omega)).1
    have ek : ∀ q, q < 5 → kf' (5 * i + q) = kf (5 * i + q) := fun q hq => (hc _ (by omega)).2
    refine ⟨b1, ?_, b4, fun q hq => ?_⟩
    · unfold Hist
      dsimp only
      rw [ec 0 (by decide), ec 1 (by decide), ec 2 (by decide), ec 3 (by decide), ec 4 (by decide), ek 0 (by decide), ek 1 (by decide), ek 2 (by decide), ek 3 (by decide), ek 4 (by decide)]
      exact ⟨b2, b3⟩
    · dsimp only
      rw [ec q hq, ek q hq]
      exact b5 q hq
