/-! the class reads a text to its end -/
def fin (s : PS) : Prop := s.w = 0 ∨ (s.w = 1 ∧ s.kd = 0)
noncomputable def itr (b : Nat → Int) (z : Nat) : Nat → PS → PS
  | 0, s => s
  | n + 1, s => itr b z n (stp b z s)
def Rch (b : Nat → Int) (z : Nat) (s f : PS) : Prop := ∃ n, itr b z n s = f ∧ fin f ∧ ∀ m, m < n → ¬ fin (itr b z m s)
theorem Rch_refl {b : Nat → Int} {z : Nat} {s : PS} (h : fin s) : Rch b z s s := ⟨0, rfl, h, fun m hm => absurd hm (by omega)⟩
theorem Rch_fin {b : Nat → Int} {z : Nat} {s f : PS} (h : fin s) (hr : Rch b z s f) : f = s := by
  obtain ⟨n, e, -, h2⟩ := hr
  cases n with
  | zero => exact e.symm
  | succ n => exact absurd h (h2 0 (by omega))
theorem Rch_step {b : Nat → Int} {z : Nat} {s f : PS} (h : ¬ fin s) (hr : Rch b z s f) : Rch b z (stp b z s) f := by
  obtain ⟨n, e, h1, h2⟩ := hr
  cases n with
  | zero =>
    have e' : s = f := e
    rw [← e'] at h1
    exact absurd h1 h
  | succ n => exact ⟨n, e, h1, fun m hm => h2 (m + 1) (by omega)⟩
theorem Rch_of {b : Nat → Int} {z : Nat} {s f : PS} (h : ¬ fin s) (hr : Rch b z (stp b z s) f) : Rch b z s f := by
  obtain ⟨n, e, h1, h2⟩ := hr
  refine ⟨n + 1, e, h1, fun m hm => ?_⟩
  cases m with
  | zero => exact h
  | succ m => exact h2 m (by omega)
/-- whether a fault was found -/
def WG (s : PS) : Prop := (s.w = 0 → s.fk = 1 ∨ s.fk = 2) ∧ (¬ s.w = 0 → s.fk = 0 ∧ s.fp = -1)
theorem WG_bad {k : Int} {s : PS} (h : k = 1 ∨ k = 2) : WG (bad k s) := ⟨fun _ => h, fun z => absurd rfl z⟩
theorem WF_bad {b : Nat → Int} {z : Nat} {k : Int} {s : PS} (h : WF b z s) : WF b z (bad k s) := by
  obtain ⟨w1, f12, l1, l2, l3, k1, k2, k3, k4⟩ := h
  exact ⟨⟨show (0 : Int) ≤ 0 by decide, show (0 : Int) ≤ 9 by decide⟩, f12, l1, fun c => absurd (show (2 : Int) ≤ 0 from c) (by decide), fun c => by rcases c with c | c | c <;> exact absurd (show (0 : Int) = _ from c) (by decide), k1, k2, k3, k4⟩
theorem WF_O {b : Nat → Int} {z : Nat} {o : Int} {s : PS} (h : WF b z s) (hw : 2 ≤ s.w) (hg : WG s) : WF b z (tkO o s) ∧ WG (tkO o s) := by
  have hG := hg.2 (by omega)
  unfold tkO
  split
  · exact ⟨WF_bad h, WG_bad (Or.inl rfl)⟩
  · obtain ⟨w1, f12, l1, l2, l3, k1, k2, k3, k4⟩ := h
    refine ⟨⟨⟨show (0 : Int) ≤ 4 by decide, show (4 : Int) ≤ 9 by decide⟩, f12, l1, fun _ => l2 hw, fun c => by rcases c with c | c | c <;> exact absurd (show (4 : Int) = _ from c) (by decide), k1, k2, k3, k4⟩, fun c => absurd (show (4 : Int) = 0 from c) (by decide), fun _ => hG⟩
theorem WF_Wd {b : Nat → Int} {z : Nat} {o : Int} {s : PS} (h : WF b z s) (hw : 2 ≤ s.w) (h1 : 1 ≤ s.tm (s.len - 1)) (hg : WG s) : WF b z (tkWd o s) ∧ WG (tkWd o s) := by
  have hG := hg.2 (by omega)
  unfold tkWd
  split
  · exact ⟨WF_bad h, WG_bad (Or.inl rfl)⟩
  · obtain ⟨w1, f12, l1, l2, l3, k1, k2, k3, k4⟩ := h
    refine ⟨⟨⟨show (0 : Int) ≤ 7 by decide, show (7 : Int) ≤ 9 by decide⟩, f12, l1, fun _ => l2 hw, fun _ => h1, k1, k2, k3, k4⟩, fun c => absurd (show (7 : Int) = 0 from c) (by decide), fun _ => hG⟩
theorem WF_tke {b : Nat → Int} {z : Nat} {s : PS} (h : WF b z s) (hw : ¬ s.w = 0) (hg : WG s) : WF b z (tke b s) ∧ WG (tke b s) := by
  have h0 := h
  have hG := hg.2 hw
  obtain ⟨w1, f12, l1, l2, l3, k1, k2, k3, k4⟩ := h
  unfold tke
  by_cases e1 : s.w = 1
  · rw [if_pos e1]
    unfold tkV
    split
    · exact ⟨WF_bad h0, WG_bad (Or.inl rfl)⟩
    · split
      · exact ⟨WF_bad h0, WG_bad (Or.inr rfl)⟩
      · have ew : ∀ c : Prop, ∀ _ : Decidable c, (if c then (2 : Int) else 3) = 2 ∨ (if c then (2 : Int) else 3) = 3 := fun c _ => by
          split
          · exact Or.inl rfl
          · exact Or.inr rfl
        have ew2 := ew (vbI (isW b s.kd s.fr s.to) = 0) inferInstance
        have e0 : up s.tm s.len 0 (s.len + 1 - 1) = 0 := by rw [show s.len + 1 - 1 = s.len by omega, up_eq]
        refine ⟨⟨⟨?_, ?_⟩, f12, by show s.len + 1 ≤ 12; omega, fun _ => ⟨by show 1 ≤ s.len + 1; omega, ?_, ?_⟩, fun c => ?_, k1, k2, k3, k4⟩, fun c => ?_, fun _ => hG⟩
        · show 0 ≤ (if vbI (isW b s.kd s.fr s.to) = 0 then (2 : Int) else 3)
          omega
        · show (if vbI (isW b s.kd s.fr s.to) = 0 then (2 : Int) else 3) ≤ 9
          omega
        · show 0 ≤ up s.tm s.len 0 (s.len + 1 - 1)
          rw [e0]
          decide
        · show up s.tm s.len 0 (s.len + 1 - 1) ≤ 5
          rw [e0]
          decide
        · have c' : (if vbI (isW b s.kd s.fr s.to) = 0 then (2 : Int) else 3) = 6 ∨ (if vbI (isW b s.kd s.fr s.to) = 0 then (2 : Int) else 3) = 7 ∨ (if vbI (isW b s.kd s.fr s.to) = 0 then (2 : Int) else 3) = 8 := c
          omega
        · have c' : (if vbI (isW b s.kd s.fr s.to) = 0 then (2 : Int) else 3) = 0 := c
          omega
  rw [if_neg e1]
  by_cases e2 : s.w = 2
  · rw [if_pos e2]
    exact WF_O h0 (by omega) hg
  rw [if_neg e2]
  by_cases e3 : s.w = 3
  · rw [if_pos e3]
    exact WF_O h0 (by omega) hg
  rw [if_neg e3]
  by_cases e4 : s.w = 4
  · rw [if_pos e4]
    unfold tkIf
    by_cases c : isW b s.kd s.fr s.to 3
    · rw [cif_p c]
      exact ⟨⟨⟨show (0 : Int) ≤ 5 by decide, show (5 : Int) ≤ 9 by decide⟩, f12, l1, fun _ => l2 (by omega), fun c => by rcases c with c | c | c <;> exact absurd (show (5 : Int) = _ from c) (by decide), k1, k2, k3, k4⟩, fun c => absurd (show (5 : Int) = 0 from c) (by decide), fun _ => hG⟩
    · rw [cif_n c]
      exact ⟨WF_bad h0, WG_bad (Or.inl rfl)⟩
  rw [if_neg e4]
  by_cases e5 : s.w = 5
  · rw [if_pos e5]
    unfold tkTm
    by_cases c : ¬ isW b s.kd s.fr s.to 4 ∧ fcI (isW b s.kd s.fr s.to) 13 0 = -1
    · rw [cif_p c]
      exact ⟨WF_bad h0, WG_bad (Or.inl rfl)⟩
    · rw [cif_n c]
      split
      · exact ⟨WF_bad h0, WG_bad (Or.inr rfl)⟩
      · next h5 =>
        obtain ⟨la, lb, lc⟩ := l2 (by omega)
        have e0 : up s.tm (s.len - 1) (s.tm (s.len - 1) + 1) (s.len - 1) = s.tm (s.len - 1) + 1 := up_eq
        by_cases d : isW b s.kd s.fr s.to 4
        · rw [cif_p d]
          refine ⟨⟨⟨show (0 : Int) ≤ 6 by decide, show (6 : Int) ≤ 9 by decide⟩, f12, l1, fun _ => ⟨la, ?_, ?_⟩, fun _ => ?_, k1, k2, k3, k4⟩, fun c => absurd (show (6 : Int) = 0 from c) (by decide), fun _ => hG⟩
          · show 0 ≤ up s.tm (s.len - 1) (s.tm (s.len - 1) + 1) (s.len - 1)
            rw [e0]
            omega
          · show up s.tm (s.len - 1) (s.tm (s.len - 1) + 1) (s.len - 1) ≤ 5
            rw [e0]
            omega
          · show 1 ≤ up s.tm (s.len - 1) (s.tm (s.len - 1) + 1) (s.len - 1)
            rw [e0]
            omega
        · rw [cif_n d]
          refine WF_Wd ⟨w1, f12, l1, fun _ => ⟨la, ?_, ?_⟩, fun _ => ?_, k1, k2, k3, k4⟩ (show 2 ≤ s.w by omega) ?_ ⟨fun c => absurd (show s.w = 0 from c) hw, fun _ => hG⟩
          · show 0 ≤ up s.tm (s.len - 1) (s.tm (s.len - 1) + 1) (s.len - 1)
            rw [e0]
            omega
          · show up s.tm (s.len - 1) (s.tm (s.len - 1) + 1) (s.len - 1) ≤ 5
            rw [e0]
            omega
          · show 1 ≤ up s.tm (s.len - 1) (s.tm (s.len - 1) + 1) (s.len - 1)
            rw [e0]
            omega
          · show 1 ≤ up s.tm (s.len - 1) (s.tm (s.len - 1) + 1) (s.len - 1)
            rw [e0]
            omega
  rw [if_neg e5]
  by_cases e6 : s.w = 6
  · rw [if_pos e6]
    exact WF_Wd h0 (by omega) (l3 (by omega)) hg
  rw [if_neg e6]
  by_cases e7 : s.w = 7
  · rw [if_pos e7]
    unfold tkR
    split
    · exact ⟨⟨⟨show (0 : Int) ≤ 8 by decide, show (8 : Int) ≤ 9 by decide⟩, f12, l1, fun _ => l2 (by omega), fun _ => l3 (by omega), k1, k2, k3, k4⟩, fun c => absurd (show (8 : Int) = 0 from c) (by decide), fun _ => hG⟩
    · exact ⟨WF_bad h0, WG_bad (Or.inl rfl)⟩
  rw [if_neg e7]
  by_cases e8 : s.w = 8
  · rw [if_pos e8]
    unfold tkVl
    split
    · exact ⟨WF_bad h0, WG_bad (Or.inl rfl)⟩
    · exact ⟨⟨⟨show (0 : Int) ≤ 9 by decide, show (9 : Int) ≤ 9 by decide⟩, f12, l1, fun _ => l2 (by omega), fun c => by rcases c with c | c | c <;> exact absurd (show (9 : Int) = _ from c) (by decide), k1, k2, k3, k4⟩, fun c => absurd (show (9 : Int) = 0 from c) (by decide), fun _ => hG⟩
  rw [if_neg e8]
  unfold tkJ
  by_cases c : isW b s.kd s.fr s.to 6
  · rw [cif_p c]
    exact ⟨⟨⟨show (0 : Int) ≤ 5 by decide, show (5 : Int) ≤ 9 by decide⟩, f12, l1, fun _ => l2 (by omega), fun c => by rcases c with c | c | c <;> exact absurd (show (5 : Int) = _ from c) (by decide), k1, k2, k3, k4⟩, fun c => absurd (show (5 : Int) = 0 from c) (by decide), fun _ => hG⟩
  · rw [cif_n c]
    split
    · exact ⟨⟨⟨show (0 : Int) ≤ 1 by decide, show (1 : Int) ≤ 9 by decide⟩, f12, l1, fun c => absurd (show (2 : Int) ≤ 1 from c) (by decide), fun c => by rcases c with c | c | c <;> exact absurd (show (1 : Int) = _ from c) (by decide), k1, k2, k3, k4⟩, fun c => absurd (show (1 : Int) = 0 from c) (by decide), fun _ => hG⟩
    · exact ⟨WF_bad h0, WG_bad (Or.inl rfl)⟩
theorem WF_adv {b : Nat → Int} {z : Nat} {s : PS} (h : WF b z s) : WF b z (adv b z s) := by
  obtain ⟨w1, ⟨f1, f2⟩, l1, l2, l3, k1, k2, k3, k4⟩ := h
  obtain ⟨t1, t2, t3, t4, t5, t6, t7, t8⟩ := tk_b (b := b) f2
  exact ⟨w1, ⟨t2, t3⟩, l1, l2, l3, ⟨t7, t8⟩, t4, t5, fun c => tk_num c⟩
theorem WF_stp {b : Nat → Int} {z : Nat} {s : PS} (h : WF b z s) (hw : ¬ s.w = 0) (hg : WG s) : WF b z (stp b z s) ∧ WG (stp b z s) := by
  obtain ⟨a, c⟩ := WF_tke h hw hg
  unfold stp
  split
  · exact ⟨a, c⟩
  · exact ⟨WF_adv a, c⟩
theorem isW_0 {b : Nat → Int} {fr to j : Nat} : ¬ isW b 0 fr to j := fun z => absurd z.1 (by decide)
/-- at the end nothing is taken -/
theorem stp_end {b : Nat → Int} {z : Nat} {s : PS} (hk : s.kd = 0) (h0 : ¬ s.w = 0) (h1 : ¬ s.w = 1) : stp b z s = bad 1 s := by
  have n1 : nmI b s = -1 := by unfold nmI; rw [hk, cif_n (by decide)]
  have g1 : sgI b s = -1 := by unfold sgI; rw [hk, cif_n (by decide)]
  have f1 : fcI (isW b s.kd s.fr s.to) 13 0 = -1 := fcI_no (fun j => by rw [hk]; exact isW_0) 13 0
  have d1 : dbI (isW b s.kd s.fr s.to) = -1 := by
    unfold dbI
    rw [hk, cif_n isW_0, cif_n isW_0, cif_n isW_0]
  have nw : ∀ j, ¬ isW b s.kd s.fr s.to j := fun j => by rw [hk]; exact isW_0
  have e : tke b s = bad 1 s := by
    unfold tke
    rw [if_neg h1]
    by_cases e2 : s.w = 2
    · rw [if_pos e2, d1]
      unfold tkO
      rw [if_pos rfl]
    rw [if_neg e2]
    by_cases e3 : s.w = 3
    · rw [if_pos e3, n1]
      unfold tkO
      rw [if_pos rfl]
    rw [if_neg e3]
    by_cases e4 : s.w = 4
    · rw [if_pos e4]
      unfold tkIf
      rw [cif_n (nw 3)]
    rw [if_neg e4]
    by_cases e5 : s.w = 5
    · rw [if_pos e5]
      unfold tkTm
      rw [cif_p ⟨nw 4, f1⟩]
    rw [if_neg e5]
    by_cases e6 : s.w = 6
    · rw [if_pos e6, f1]
      unfold tkWd
      rw [if_pos rfl]
    rw [if_neg e6]
    by_cases e7 : s.w = 7
    · rw [if_pos e7, g1]
      unfold tkR
      rw [if_neg (by decide)]
    rw [if_neg e7]
    by_cases e8 : s.w = 8
    · rw [if_pos e8, n1]
      unfold tkVl
      rw [if_pos rfl]
    rw [if_neg e8, g1]
    unfold tkJ
    rw [cif_n (nw 6), if_neg (by decide)]
  unfold stp
  rw [e]
  exact if_pos rfl
theorem cif_e {α : Type} {P : α → Prop} {c : Prop} {x y : α} (hx : P x) (hy : P y) : P (cif c x y) := by
  by_cases h : c
  · rw [cif_p h]; exact hx
  · rw [cif_n h]; exact hy
theorem ite_e {α : Type} {P : α → Prop} {c : Prop} [Decidable c] {x y : α} (hx : P x) (hy : P y) : P (if c then x else y) := by
  split
  · exact hx
  · exact hy
def SmT (s t : PS) : Prop := t.fr = s.fr ∧ t.to = s.to ∧ t.kd = s.kd
theorem fr_tke {b : Nat → Int} {s : PS} : (tke b s).fr = s.fr ∧ (tke b s).to = s.to ∧ (tke b s).kd = s.kd := by
  have hb : ∀ k, SmT s (bad k s) := fun k => ⟨rfl, rfl, rfl⟩
  have hO : ∀ o, SmT s (tkO o s) := fun o => ite_e (P := SmT s) (hb 1) ⟨rfl, rfl, rfl⟩
  have hW : ∀ o (t : PS), SmT s t → SmT s (tkWd o t) := fun o t ht => ite_e (P := SmT s) ht ht
  show SmT s (tke b s)
  unfold tke
  refine ite_e (P := SmT s) ?_ (ite_e (P := SmT s) (hO _) (ite_e (P := SmT s) (hO _) (ite_e (P := SmT s) ?_ (ite_e (P := SmT s) ?_ (ite_e (P := SmT s) (hW _ s ⟨rfl, rfl, rfl⟩) (ite_e (P := SmT s) ?_ (ite_e (P := SmT s) ?_ ?_)))))))
  · exact ite_e (P := SmT s) (hb 1) (ite_e (P := SmT s) (hb 2) ⟨rfl, rfl, rfl⟩)
  · exact cif_e (P := SmT s) ⟨rfl, rfl, rfl⟩ (hb 1)
  · exact cif_e (P := SmT s) (hb 1) (ite_e (P := SmT s) (hb 2) (cif_e (P := SmT s) ⟨rfl, rfl, rfl⟩ (hW _ _ ⟨rfl, rfl, rfl⟩)))
  · exact ite_e (P := SmT s) ⟨rfl, rfl, rfl⟩ (hb 1)
  · exact ite_e (P := SmT s) (hb 1) ⟨rfl, rfl, rfl⟩
  · exact cif_e (P := SmT s) ⟨rfl, rfl, rfl⟩ (ite_e (P := SmT s) ⟨rfl, rfl, rfl⟩ (hb 1))
theorem rd_loop {σ : St} {b : Nat → Int} {z tx : Nat} {Q : St → Prop} (hB : Bse σ b z tx) :
    ∀ (k x n : Nat) (S : St) (s : PS), x + k = 301 → k < n → CR σ S tx s → WF b z s → WG s → (¬ s.w = 0 → x ≤ s.fr) → (∀ S' f, Rch b z s f → CR σ S' tx f → WG f → Q S') → wp_X8_readText_8 (wp_X8_readText_47 Q) Q n S s.w x := by
  intro k
  induction k with
  | zero =>
    intro x n S s hk hn hC hW hG hx q
    obtain ⟨n, rfl⟩ : ∃ n', n = n' + 1 := ⟨n - 1, by omega⟩
    have b3 := hB.2.2.1
    have f12 := hW.2.1
    have w0 : s.w = 0 := by
      by_cases c : s.w = 0
      · exact c
      · have := hx c
        omega
    unfold wp_X8_readText_8 wp_X8_readText_47
    rw [w0]
    exact ⟨⟨by omega, by omega⟩, fun _ => ⟨in0, fun _ => q S s (Rch_refl (Or.inl w0)) hC hG, fun z => absurd rfl z⟩, fun z => absurd (by omega) z⟩
  | succ k ih =>
    intro x n S s hk hn hC hW hG hx q
    obtain ⟨n, rfl⟩ : ∃ n', n = n' + 1 := ⟨n - 1, by omega⟩
    have b3 := hB.2.2.1
    obtain ⟨w1, ⟨f1, f2⟩, l1, l2, l3, k1, k2, k3, k4⟩ := id hW
    have c1 := hC.1.1
    by_cases w0 : s.w = 0
    · have q0 := q S s (Rch_refl (Or.inl w0)) hC hG
      unfold wp_X8_readText_8 wp_X8_readText_47 wp_X9_isEnd
      rw [w0, c1]
      have k47 : inR 0 ∧ ((0 : Int) = 0 → Q S) ∧ (¬ (0 : Int) = 0 → inR 0 ∧ ((0 : Int) = 1 → Q S) ∧ (¬ (0 : Int) = 1 → wp_X8_refuse S 1 (fun r_4 σ_3 => Q σ_3))) := ⟨in0, fun _ => q0, fun z => absurd rfl z⟩
      exact ⟨⟨by omega, by omega⟩, fun _ => k47, fun _ => ⟨⟨by omega, by omega⟩, fun _ => ⟨in0, fun c => absurd rfl c, fun _ => ⟨in0, fun _ => k47, fun z => absurd rfl z⟩⟩, fun _ => ⟨in1, fun _ => k47, fun c => absurd c (by decide)⟩⟩⟩
    · have hx0 := hx w0
      have fe : s.kd = 0 → wp_X8_readText_47 Q S s.w := by
        intro e
        unfold wp_X8_readText_47
        refine ⟨⟨by omega, by omega⟩, fun z => absurd z w0, fun _ => ⟨⟨by omega, by omega⟩, fun z => q S s (Rch_refl (Or.inr ⟨z, e⟩)) hC hG, fun z => ?_⟩⟩
        have nf : ¬ fin s := fun c => c.elim w0 (fun c => z c.1)
        refine sx_refuse hC (fun S' hC' => q S' (bad 1 s) (Rch_of nf ?_) hC' (WG_bad (Or.inl rfl)))
        rw [stp_end e w0 z]
        exact Rch_refl (Or.inl rfl)
      unfold wp_X8_readText_8 wp_X9_isEnd
      rw [c1]
      refine ⟨⟨by omega, by omega⟩, fun y => fe (by
        by_cases c : s.kd = 0
        · exact c
        · have := k3 c
          omega), fun _ => ⟨⟨by omega, by omega⟩, fun kd => ⟨in0, fun c => absurd rfl c, fun _ => ⟨⟨by omega, by omega⟩, fun z => absurd z w0, fun _ => ?_⟩⟩, fun kd => ⟨in1, fun _ => fe kd, fun c => absurd c (by decide)⟩⟩⟩
      have nf : ¬ fin s := fun c => c.elim w0 (fun c => kd c.2)
      obtain ⟨g1, g2⟩ := WF_tke hW w0 hG
      obtain ⟨p1, p2, p3⟩ := fr_tke (b := b) (s := s)
      refine take_x hB hC hW w0 (fun S1 hC1 => ?_)
      unfold wp_X8_readText_41
      rw [show ((x : Int) + 1) = ((x + 1 : Nat) : Int) by omega]
      refine ⟨⟨by have := g1.1; omega, by have := g1.1; omega⟩, fun u => ?_, fun u => ?_⟩
      · have es : stp b z s = tke b s := by unfold stp; rw [if_pos u]
        exact ih (x + 1) n S1 (tke b s) (by omega) (by omega) hC1 g1 g2 (fun c => absurd u c) (fun S' f hr hC' hG' => q S' f (Rch_of nf (by rw [es]; exact hr)) hC' hG')
      · have es : stp b z s = adv b z (tke b s) := by unfold stp; rw [if_neg u]
        have hT := (hC1.tp hB).1
        have kk := k3 kd
        have tb := tk_b (b := b) (z := z) (p := s.to) f2
        refine sx_next hT hC1.1.2.2.1 (by rw [p2]; exact f2) (fun S2 hn2 => ?_)
        refine ih (x + 1) n S2 (adv b z (tke b s)) (by omega) (by omega) (CR_adv hC1 hn2) (WF_adv g1) g2 (fun _ => ?_) (fun S' f hr hC' hG' => q S' f (Rch_of nf (by rw [es]; exact hr)) hC' hG')
        show x + 1 ≤ tkF b z (tke b s).to
        rw [p2]
        omega
