/-! a statement's terms, of the reference -/
theorem tke1 {b : Nat → Int} {s : PS} (h : s.w = 1) : tke b s = tkV (isW b s.kd s.fr s.to) s := by unfold tke; rw [if_pos h]
theorem tke2 {b : Nat → Int} {s : PS} (h : s.w = 2) : tke b s = tkO (dbI (isW b s.kd s.fr s.to)) s := by unfold tke; rw [if_neg (by omega), if_pos h]
theorem tke3 {b : Nat → Int} {s : PS} (h : s.w = 3) : tke b s = tkO (nmI b s) s := by unfold tke; rw [if_neg (by omega), if_neg (by omega), if_pos h]
theorem tke4 {b : Nat → Int} {s : PS} (h : s.w = 4) : tke b s = tkIf (isW b s.kd s.fr s.to) s := by unfold tke; rw [if_neg (by omega), if_neg (by omega), if_neg (by omega), if_pos h]
theorem tke5 {b : Nat → Int} {s : PS} (h : s.w = 5) : tke b s = tkTm (isW b s.kd s.fr s.to) s := by unfold tke; rw [if_neg (by omega), if_neg (by omega), if_neg (by omega), if_neg (by omega), if_pos h]
theorem tke6 {b : Nat → Int} {s : PS} (h : s.w = 6) : tke b s = tkWd (fcI (isW b s.kd s.fr s.to) 13 0) s := by unfold tke; rw [if_neg (by omega), if_neg (by omega), if_neg (by omega), if_neg (by omega), if_neg (by omega), if_pos h]
theorem tke7 {b : Nat → Int} {s : PS} (h : s.w = 7) : tke b s = tkR (sgI b s) s := by unfold tke; rw [if_neg (by omega), if_neg (by omega), if_neg (by omega), if_neg (by omega), if_neg (by omega), if_neg (by omega), if_pos h]
theorem tke8 {b : Nat → Int} {s : PS} (h : s.w = 8) : tke b s = tkVl (nmI b s) s := by unfold tke; rw [if_neg (by omega), if_neg (by omega), if_neg (by omega), if_neg (by omega), if_neg (by omega), if_neg (by omega), if_neg (by omega), if_pos h]
theorem tke9 {b : Nat → Int} {s : PS} (h : s.w = 9) : tke b s = tkJ (isW b s.kd s.fr s.to) (sgI b s) s := by unfold tke; rw [if_neg (by omega), if_neg (by omega), if_neg (by omega), if_neg (by omega), if_neg (by omega), if_neg (by omega), if_neg (by omega), if_neg (by omega)]
theorem stp_bad {b : Nat → Int} {z : Nat} {k : Int} {s : PS} (h : tke b s = bad k s) : stp b z s = bad k s := by
  unfold stp
  rw [h]
  exact if_pos rfl
theorem stp_adv {b : Nat → Int} {z : Nat} {s t : PS} (h : tke b s = t) (hw : ¬ t.w = 0) : stp b z s = adv b z t := by
  unfold stp
  rw [h]
  exact if_neg hw
/-- a fault, as both have it -/
def FltM (τ T : St) (f : PS) : Prop := f.w = 0 ∧ T 12 0 45 = f.fk ∧ T 12 0 46 = f.fp ∧ FrL2 τ T
theorem wr_m {τ T : St} {b : Nat → Int} {z : Nat} {s f : PS} {k : Int} {Q : Int → St → Prop} (h48 : T 12 0 48 = s.fr) (hF : FrL2 τ T) (h45 : T 12 0 45 = 0) (hr : Rch b z s f) (hn : ¬ fin s) (hs : stp b z s = bad k s) (q : ∀ T', FltM τ T' f → Q 0 T') : wp_X12_wrong T k Q := by
  have ef : f = bad k s := by
    have h := Rch_step hn hr
    rw [hs] at h
    exact Rch_fin (Or.inl rfl) h
  unfold wp_X12_wrong
  rw [h45]
  refine ⟨in0, fun c => absurd rfl c, fun _ s2 e2 s3 e3 => ?_⟩
  have r48 : s2 12 0 48 = s.fr := by rw [e2, rs_eq, up_ne (by decide), h48]
  rw [r48] at e3
  refine q s3 ⟨by rw [ef]; rfl, ?_, ?_, ?_⟩
  · rw [e3, rs_eq, up_ne (by decide), e2, rs_eq, up_eq, ef]
    rfl
  · rw [e3, rs_eq, up_eq, ef]
    rfl
  · rw [e3, e2]
    exact FrL2_12 (FrL2_12 hF (by decide)) (by decide)
theorem nx_m {τ T : St} {b : Nat → Int} {z : Nat} {t : PS} {Q : St → Prop} (hT : TpM T b z) (h49 : T 12 0 49 = t.to) (hz : t.to ≤ z) (hF : FrL2 τ T) (q : ∀ T', MT T' b z (adv b z t) → FrL2 τ T' → (∀ k, ¬ k = 12 → T' k = T k) → (∀ i, (i < 48 ∨ 51 < i) → T' 12 0 i = T 12 0 i) → Q T') : wp_X12_next T Q := by
  refine sm_next hT h49 hz (fun T' hn => q T' (MT_adv hT hz hn) (FrL2_n hF hn) hn.1 (fun i hi => hn.2.1 i (by omega) (by omega) (by omega) (by omega)))
/-- what a statement under way has, of its first j terms -/
def B0 (T : St) (s : PS) (r j : Nat) : Prop := (∀ k, k < r → RowF s (T 111 0) (T 112 0) (T 113 0) (T 114 0) (T 115 0) (T 116 0) (T 117 0) k) ∧ Stm (s.vb r) (s.ob r) (T 111 0 (240 + r)) (T 112 0 (240 + r)) ∧ ∀ q, q < j → Trm (s.ng (5 * r + q)) (s.wd (5 * r + q)) (s.rl (5 * r + q)) (s.vl (5 * r + q)) (T 114 0 (1200 + (5 * r + q))) (T 115 0 (1200 + (5 * r + q))) (T 116 0 (1200 + (5 * r + q))) (T 117 0 (1200 + (5 * r + q)))
theorem B0_c {T T' : St} {s s' : PS} {r j : Nat} (hj : j ≤ 5) (h : B0 T s r j) (e0 : s'.vb r = s.vb r ∧ s'.ob r = s.ob r) (e1 : ∀ i, i < r → s'.vb i = s.vb i ∧ s'.ob i = s.ob i ∧ s'.tm i = s.tm i) (e2 : ∀ i, i < 5 * r + j → s'.ng i = s.ng i ∧ s'.wd i = s.wd i ∧ s'.rl i = s.rl i ∧ s'.vl i = s.vl i) (e3 : ∀ i, i < 240 + r → T' 111 0 i = T 111 0 i ∧ T' 112 0 i = T 112 0 i ∧ T' 113 0 i = T 113 0 i) (e3b : T' 111 0 (240 + r) = T 111 0 (240 + r) ∧ T' 112 0 (240 + r) = T 112 0 (240 + r)) (e4 : ∀ i, i < 1200 + (5 * r + j) → T' 114 0 i = T 114 0 i ∧ T' 115 0 i = T 115 0 i ∧ T' 116 0 i = T 116 0 i ∧ T' 117 0 i = T 117 0 i) : B0 T' s' r j := by
  obtain ⟨h1, h2, h3⟩ := h
  refine ⟨fun k hk => RowF_c hk (h1 k hk) e1 (fun i hi => e2 i (by omega)) e3 (fun i hi => e4 i (by omega)), ?_, fun q hq => ?_⟩
  · rw [e0.1, e0.2, e3b.1, e3b.2]
    exact h2
  · obtain ⟨d1, d2, d3, d4⟩ := e2 (5 * r + q) (by omega)
    obtain ⟨g1, g2, g3, g4⟩ := e4 (1200 + (5 * r + q)) (by omega)
    rw [d1, d2, d3, d4, g1, g2, g3, g4]
    exact h3 q hq
theorem B0_T {T T' : St} {s : PS} {r j : Nat} (h : B0 T s r j) (e : ∀ k, ¬ k = 12 → T' k = T k) : B0 T' s r j := by
  unfold B0
  rw [e 111 (by decide), e 112 (by decide), e 113 (by decide), e 114 (by decide), e 115 (by decide), e 116 (by decide), e 117 (by decide)]
  exact h
/-- the numbers of the reference that stand through a statement -/
def Nm (τ T : St) (r : Nat) : Prop := FrL2 τ T ∧ T 12 0 45 = 0 ∧ T 12 0 46 = -1 ∧ T 12 0 47 = r
theorem Nm_n {τ T T' : St} {r : Nat} (h : Nm τ T r) (hF : FrL2 τ T') (e : ∀ i, (i < 48 ∨ 51 < i) → T' 12 0 i = T 12 0 i) : Nm τ T' r := ⟨hF, by rw [e 45 (by decide)]; exact h.2.1, by rw [e 46 (by decide)]; exact h.2.2.1, by rw [e 47 (by decide)]; exact h.2.2.2⟩
theorem Nm_a {τ T : St} {K i r : Nat} {v : Int} (h : Nm τ T r) (hK : K = 111 ∨ K = 112 ∨ K = 113) (hi : 240 ≤ i) : Nm τ (st T K 0 i v) r := ⟨FrL2_a h.1 hK hi, by rw [rs_ne (by omega)]; exact h.2.1, by rw [rs_ne (by omega)]; exact h.2.2.1, by rw [rs_ne (by omega)]; exact h.2.2.2⟩
theorem Nm_b {τ T : St} {K i r : Nat} {v : Int} (h : Nm τ T r) (hK : K = 114 ∨ K = 115 ∨ K = 116 ∨ K = 117) (hi : 1200 ≤ i) (hv : K = 114 → 0 ≤ v ∧ v ≤ 1) : Nm τ (st T K 0 i v) r := ⟨FrL2_b h.1 hK hi hv, by rw [rs_ne (by omega)]; exact h.2.1, by rw [rs_ne (by omega)]; exact h.2.2.1, by rw [rs_ne (by omega)]; exact h.2.2.2⟩
theorem MT_k {T : St} {b : Nat → Int} {z K i : Nat} {v : Int} {s : PS} (h : MT T b z s) (hK : 111 ≤ K ∧ K ≤ 117) : MT (st T K 0 i v) b z s := by
  obtain ⟨⟨a1, a2, a3, a4⟩, m1, m2, m3, m4, m5, m6⟩ := h
  have e : st T K 0 i v 12 = T 12 := rs_ne (by omega)
  unfold MT TpM
  rw [e, rs_ne (show ¬ 118 = K by omega)]
  exact ⟨⟨a1, a2, a3, a4⟩, m1, m2, m3, m4, m5, m6⟩
/-- at the head of a term -/
def Hd5 (τ T : St) (b : Nat → Int) (z : Nat) (s f : PS) (r j : Nat) : Prop := s.w = 5 ∧ s.len = r + 1 ∧ r < 12 ∧ j ≤ 5 ∧ MT T b z s ∧ Nm τ T r ∧ WF b z s ∧ WG s ∧ B0 T s r j ∧ T 113 0 (240 + r) = (j : Int) ∧ s.tm r = (j : Int) ∧ Rch b z s f
/-- behind the last term -/
def Hd9 (τ T : St) (b : Nat → Int) (z : Nat) (s f : PS) (r : Nat) : Prop := s.w = 9 ∧ s.len = r + 1 ∧ r < 12 ∧ MT T b z s ∧ Nm τ T r ∧ WF b z s ∧ WG s ∧ (∀ k, k < r + 1 → RowF s (T 111 0) (T 112 0) (T 113 0) (T 114 0) (T 115 0) (T 116 0) (T 117 0) k) ∧ ¬ isW b s.kd s.fr s.to 6 ∧ Rch b z s f
theorem term_m {τ T : St} {b : Nat → Int} {z r j : Nat} {p t f : PS} {Q : Int → St → Prop} {K9 : St → Int → Int → Prop} (hr : r < 12) (hj : j < 5) (hM : MT T b z p) (hN : Nm τ T r) (nf : ¬ fin p) (hR : Rch b z p f) (hbad : fcI (isW b p.kd p.fr p.to) 13 0 = -1 → stp b z p = bad 1 p) (hok : ¬ fcI (isW b p.kd p.fr p.to) 13 0 = -1 → stp b z p = adv b z t)
    (tw : t.w = 7) (tt : t.to = p.to) (tl : t.len = r + 1) (ttm : t.tm r = (j : Int) + 1) (tB : B0 T t r j) (tng : t.ng (5 * r + j) = T 114 0 (1200 + (5 * r + j))) (tng2 : 0 ≤ t.ng (5 * r + j) ∧ t.ng (5 * r + j) ≤ 1) (twd : t.wd (5 * r + j) = fcI (isW b p.kd p.fr p.to) 13 0) (tW : WF b z t) (tG : WG t) (h113 : T 113 0 (240 + r) = (j : Int))
    (q0 : ∀ T', FltM τ T' f → Q 0 T') (q5 : ∀ T' s, Hd5 τ T' b z s f r (j + 1) → K9 T' ((240 + r : Nat) : Int) 1) (q9 : ∀ T' s, Hd9 τ T' b z s f r → K9 T' ((240 + r : Nat) : Int) 0) :
    wp_X12_takesCond_90 K9 (wp_X12_takesCond_31 Q) (wp_X12_takesCond_47 Q) (wp_X12_takesCond_110 Q) (wp_X12_takesCond_144 Q) (wp_X12_takesCond_162 Q) Q T ((240 + r : Nat) : Int) ((1200 + (5 * r + j) : Nat) : Int) := by
  have fb := fcI_b (P := isW b p.kd p.fr p.to) 13 0
  have wq : ∀ (T1 : St) (s1 : PS) (k : Int), T1 12 0 48 = s1.fr → Nm τ T1 r → Rch b z s1 f → ¬ fin s1 → stp b z s1 = bad k s1 → wp_X12_wrong T1 k (fun r_2 σ_1 => (r_2 = 0 ∨ r_2 = 1) ∧ Q r_2 σ_1) := fun T1 s1 k h48 hN1 hR1 nf1 hs => wr_m h48 hN1.1 hN1.2.1 hR1 nf1 hs (fun T' hT' => ⟨Or.inl rfl, q0 T' hT'⟩)
  unfold wp_X12_takesCond_90
  refine sm_fact hM ?_
  rw [Int.toNat_natCast, Int.toNat_natCast]
  refine ⟨by omega, by omega, fun T2 e2 => ⟨by omega, by omega, ?_⟩⟩
  have v2 : T2 115 0 (1200 + (5 * r + j)) = fcI (isW b p.kd p.fr p.to) 13 0 := by rw [e2, rs_eq, up_eq]
  have M2 : MT T2 b z p := by rw [e2]; exact MT_k hM (by decide)
  have N2 : Nm τ T2 r := by rw [e2]; exact Nm_b hN (by decide) (by omega) (fun c => absurd c (by decide))
  rw [v2]
  refine ⟨⟨by omega, by omega⟩, fun y => ?_, fun y => ?_⟩
  · have es := hok y
    have k2 : ∀ k, ¬ k = 115 → T2 k = T k := fun k z => by rw [e2, rs_ne z]
    have B2 : B0 T2 t r j := by
      refine B0_c (by omega) tB ⟨rfl, rfl⟩ (fun i _ => ⟨rfl, rfl, rfl⟩) (fun i _ => ⟨rfl, rfl, rfl, rfl⟩) ?_ ?_ (fun i hi => ⟨?_, ?_, ?_, ?_⟩)
      · rw [k2 111 (by decide), k2 112 (by decide), k2 113 (by decide)]
        exact fun i _ => ⟨rfl, rfl, rfl⟩
      · rw [k2 111 (by decide), k2 112 (by decide)]
        exact ⟨rfl, rfl⟩
      · rw [k2 114 (by decide)]
      · rw [e2, rs_eq, up_ne (by omega)]
      · rw [k2 116 (by decide)]
      · rw [k2 117 (by decide)]
    have R1 := Rch_step nf hR
    rw [es] at R1
    refine nx_m (t := t) M2.1 (by rw [tt]; exact M2.2.2.2.1) (by rw [tt]; exact M2.2.2.2.2.2.2.1.2) N2.1 (fun T3 M3 F3 n3 i3 => ?_)
    have N3 := Nm_n N2 F3 i3
    have B3 : B0 T3 (adv b z t) r j := B0_T (s := adv b z t) B2 n3
    have W3 : WF b z (adv b z t) := WF_adv tW
    obtain ⟨s2, es2⟩ : ∃ s2, s2 = adv b z t := ⟨_, rfl⟩
    have w2 : s2.w = 7 := by rw [es2]; exact tw
    have l2 : s2.len = r + 1 := by rw [es2]; exact tl
    have tm2 : s2.tm r = (j : Int) + 1 := by rw [es2]; exact ttm
    have ng2 : s2.ng (5 * r + j) = T3 114 0 (1200 + (5 * r + j)) ∧ 0 ≤ s2.ng (5 * r + j) ∧ s2.ng (5 * r + j) ≤ 1 := by
      rw [es2, n3 114 (by decide), k2 114 (by decide)]
      exact ⟨tng, tng2⟩
    have wd2 : s2.wd (5 * r + j) = T3 115 0 (1200 + (5 * r + j)) ∧ 0 ≤ s2.wd (5 * r + j) ∧ s2.wd (5 * r + j) ≤ 12 := by
      rw [es2, n3 115 (by decide), v2]
      have e : (adv b z t).wd (5 * r + j) = fcI (isW b p.kd p.fr p.to) 13 0 := twd
      rw [e]
      omega
    have G2 : WG s2 := by rw [es2]; exact tG
    have h113c : T3 113 0 (240 + r) = (j : Int) := by rw [n3 113 (by decide), k2 113 (by decide), h113]
    rw [← es2] at M3 B3 W3 R1
    clear es2 B2 es v2 e2 k2
    have nf2 : ¬ fin s2 := fun c => by rcases c with c | c <;> omega
    have ti2 : tix s2 - 1 = 5 * r + j := by
      unfold tix
      rw [l2, show r + 1 - 1 = r by omega, tm2]
      omega
    have sgb : -1 ≤ sgI b s2 ∧ sgI b s2 ≤ 3 := by
      unfold sgI
      by_cases c : s2.kd = 3
      · rw [cif_p c]
        unfold sgv
        repeat' split
        all_goals omega
      · rw [cif_n c]
        decide
    refine sm_sgn M3 ⟨by omega, by omega, fun T4 e4 => ⟨by omega, by omega, ?_⟩⟩
    have v4 : T4 116 0 (1200 + (5 * r + j)) = sgI b s2 := by rw [e4, rs_eq, up_eq]
    have M4 : MT T4 b z s2 := by rw [e4]; exact MT_k M3 (by decide)
    have N4 : Nm τ T4 r := by rw [e4]; exact Nm_b N3 (by decide) (by omega) (fun c => absurd c (by decide))
    have k4 : ∀ k, ¬ k = 116 → T4 k = T3 k := fun k z => by rw [e4, rs_ne z]
    rw [v4]
    refine wi_m ⟨by omega, by omega⟩ in0 ⟨by decide, by decide⟩ (fun g1 g2 => ⟨in1, fun _ => ?_, fun c => absurd c (by decide)⟩) (fun g => ⟨in0, fun c => absurd rfl c, fun _ => ?_⟩)
    · obtain ⟨t3, et3⟩ : ∃ t3, t3 = mkP 8 s2.kd s2.fr s2.to s2.len s2.fk s2.fp s2.vb s2.ob s2.tm s2.ng s2.wd (up s2.rl (tix s2 - 1) (sgI b s2)) s2.vl := ⟨_, rfl⟩
      have tk3 : tke b s2 = t3 := by rw [tke7 w2, et3]; unfold tkR; rw [if_pos ⟨g1, g2⟩]
      have es3 := stp_adv (z := z) tk3 (by rw [et3]; show ¬ (8 : Int) = 0; decide)
      have WF3 := WF_tke W3 (by omega) G2
      rw [tk3] at WF3
      have R2 := Rch_step nf2 R1
      rw [es3] at R2
      have rl3 : t3.rl (5 * r + j) = sgI b s2 := by
        rw [et3]
        show up s2.rl (tix s2 - 1) (sgI b s2) (5 * r + j) = _
        rw [ti2, up_eq]
      have B4 : B0 T4 t3 r j := by
        refine B0_c (by omega) B3 (by rw [et3]; exact ⟨rfl, rfl⟩) (fun i _ => by rw [et3]; exact ⟨rfl, rfl, rfl⟩) (fun i hi => by
          rw [et3]
          refine ⟨rfl, rfl, ?_, rfl⟩
          show up s2.rl (tix s2 - 1) (sgI b s2) i = _
          rw [ti2, up_ne (by omega)]) ?_ ?_ (fun i hi => ⟨?_, ?_, ?_, ?_⟩)
        · rw [k4 111 (by decide), k4 112 (by decide), k4 113 (by decide)]
          exact fun i _ => ⟨rfl, rfl, rfl⟩
        · rw [k4 111 (by decide), k4 112 (by decide)]
          exact ⟨rfl, rfl⟩
        · rw [k4 114 (by decide)]
        · rw [k4 115 (by decide)]
        · rw [e4, rs_eq, up_ne (by omega)]
        · rw [k4 117 (by decide)]
      have to3 : t3.to = s2.to := by rw [et3]; rfl
      refine nx_m (t := t3) M4.1 (by rw [to3]; exact M4.2.2.2.1) (by rw [to3]; exact M4.2.2.2.2.2.2.1.2) N4.1 (fun T5 M5 F5 n5 i5 => ?_)
      have N5 := Nm_n N4 F5 i5
      have B5 : B0 T5 (adv b z t3) r j := B0_T (s := adv b z t3) B4 n5
      obtain ⟨s3, es3b⟩ : ∃ s3, s3 = adv b z t3 := ⟨_, rfl⟩
      have W5 : WF b z s3 := by rw [es3b]; exact WF_adv WF3.1
      have G5 : WG s3 := by rw [es3b]; exact WF3.2
      have w3 : s3.w = 8 := by rw [es3b, et3]; rfl
      have l3 : s3.len = r + 1 := by rw [es3b, et3]; exact l2
      have tm3 : s3.tm r = (j : Int) + 1 := by rw [es3b, et3]; exact tm2
      have ng3 : s3.ng (5 * r + j) = T5 114 0 (1200 + (5 * r + j)) ∧ 0 ≤ s3.ng (5 * r + j) ∧ s3.ng (5 * r + j) ≤ 1 := by
        rw [n5 114 (by decide), k4 114 (by decide), es3b, et3]
        exact ng2
      have wd3 : s3.wd (5 * r + j) = T5 115 0 (1200 + (5 * r + j)) ∧ 0 ≤ s3.wd (5 * r + j) ∧ s3.wd (5 * r + j) ≤ 12 := by
        rw [n5 115 (by decide), k4 115 (by decide), es3b, et3]
        exact wd2
      have rl3b : s3.rl (5 * r + j) = T5 116 0 (1200 + (5 * r + j)) ∧ 0 ≤ s3.rl (5 * r + j) ∧ s3.rl (5 * r + j) ≤ 2 := by
        have e : s3.rl (5 * r + j) = sgI b s2 := by rw [es3b]; exact rl3
        rw [n5 116 (by decide), v4, e]
        omega
      have h113d : T5 113 0 (240 + r) = (j : Int) := by rw [n5 113 (by decide), k4 113 (by decide), h113c]
      rw [← es3b] at M5 B5 R2
      clear es3b et3 B4 B3 es3 tk3 WF3 rl3 to3 v4 k4 e4
      have nf3 : ¬ fin s3 := fun c => by rcases c with c | c <;> omega
      have ti3 : tix s3 - 1 = 5 * r + j := by
        unfold tix
        rw [l3, show r + 1 - 1 = r by omega, tm3]
        omega
      have k5 := M5.2.2.2.2.2.2.2.1
      rw [M5.2.1]
      refine ⟨⟨by omega, by omega⟩, fun k2 => ⟨by omega, by omega, fun T6 e6 => ?_⟩, fun k2 => ?_⟩
      · have nv := W5.2.2.2.2.2.2.2.2 k2
        have en : nmI b s3 = nmv b s3.fr (s3.to - s3.fr) := by unfold nmI; rw [cif_p k2]
        rw [M5.2.2.2.2.1 k2, ← en] at e6
        obtain ⟨t4, et4⟩ : ∃ t4, t4 = mkP 9 s3.kd s3.fr s3.to s3.len s3.fk s3.fp s3.vb s3.ob s3.tm s3.ng s3.wd s3.rl (up s3.vl (tix s3 - 1) (nmI b s3)) := ⟨_, rfl⟩
        have tk4 : tke b s3 = t4 := by rw [tke8 w3, et4]; unfold tkVl; rw [if_neg (by omega)]
        have es4 := stp_adv (z := z) tk4 (by rw [et4]; show ¬ (9 : Int) = 0; decide)
        have WF4 := WF_tke W5 (by omega) G5
        rw [tk4] at WF4
        have R3 := Rch_step nf3 R2
        rw [es4] at R3
        have v6 : T6 117 0 (1200 + (5 * r + j)) = nmI b s3 := by rw [e6, rs_eq, up_eq]
        have k6 : ∀ k, ¬ k = 117 → T6 k = T5 k := fun k z => by rw [e6, rs_ne z]
        have M6 : MT T6 b z s3 := by rw [e6]; exact MT_k M5 (by decide)
        have N6 : Nm τ T6 r := by rw [e6]; exact Nm_b N5 (by decide) (by omega) (fun c => absurd c (by decide))
        have vl4 : t4.vl (5 * r + j) = nmI b s3 := by
          rw [et4]
          show up s3.vl (tix s3 - 1) (nmI b s3) (5 * r + j) = _
          rw [ti3, up_eq]
        have B6 : B0 T6 t4 r j := by
          refine B0_c (by omega) B5 (by rw [et4]; exact ⟨rfl, rfl⟩) (fun i _ => by rw [et4]; exact ⟨rfl, rfl, rfl⟩) (fun i hi => by
            rw [et4]
            refine ⟨rfl, rfl, rfl, ?_⟩
            show up s3.vl (tix s3 - 1) (nmI b s3) i = _
            rw [ti3, up_ne (by omega)]) ?_ ?_ (fun i hi => ⟨?_, ?_, ?_, ?_⟩)
          · rw [k6 111 (by decide), k6 112 (by decide), k6 113 (by decide)]
            exact fun i _ => ⟨rfl, rfl, rfl⟩
          · rw [k6 111 (by decide), k6 112 (by decide)]
            exact ⟨rfl, rfl⟩
          · rw [k6 114 (by decide)]
          · rw [k6 115 (by decide)]
          · rw [k6 116 (by decide)]
          · rw [e6, rs_eq, up_ne (by omega)]
        have B6b : B0 T6 t4 r (j + 1) := by
          obtain ⟨h1, h2, h3⟩ := B6
          refine ⟨h1, h2, fun q hq => ?_⟩
          by_cases c : q = j
          · subst c
            refine ⟨⟨?_, ?_, ?_, ?_⟩, ?_⟩
            · rw [k6 114 (by decide), et4]
              exact ng3.1.symm
            · rw [k6 115 (by decide), et4]
              exact wd3.1.symm
            · rw [k6 116 (by decide), et4]
              exact rl3b.1.symm
            · rw [v6, vl4]
            · rw [vl4, et4]
              exact ⟨ng3.2.1, ng3.2.2, wd3.2.1, wd3.2.2, rl3b.2.1, rl3b.2.2, by omega, by omega⟩
          · exact h3 q (by omega)
        have to4 : t4.to = s3.to := by rw [et4]; rfl
        refine nx_m (t := t4) M6.1 (by rw [to4]; exact M6.2.2.2.1) (by rw [to4]; exact M6.2.2.2.2.2.2.1.2) N6.1 (fun T7 M7 F7 n7 i7 => ⟨by omega, by omega, by omega, by omega, fun T8 e8 => ?_⟩)
        have N7 := Nm_n N6 F7 i7
        have B7 : B0 T7 (adv b z t4) r (j + 1) := B0_T (s := adv b z t4) B6b n7
        obtain ⟨s4, es4b⟩ : ∃ s4, s4 = adv b z t4 := ⟨_, rfl⟩
        have W7 : WF b z s4 := by rw [es4b]; exact WF_adv WF4.1
        have G7 : WG s4 := by rw [es4b]; exact WF4.2
        have w4 : s4.w = 9 := by rw [es4b, et4]; rfl
        have l4 : s4.len = r + 1 := by rw [es4b, et4]; exact l3
        have tm4 : s4.tm r = (j : Int) + 1 := by rw [es4b, et4]; exact tm3
        rw [← es4b] at M7 B7 R3
        clear es4b et4 B6b B6 B5 es4 tk4 WF4 vl4 to4
        have nf4 : ¬ fin s4 := fun c => by rcases c with c | c <;> omega
        have h113e : T7 113 0 (240 + r) = (j : Int) := by rw [n7 113 (by decide), k6 113 (by decide), h113d]
        rw [h113e] at e8
        have k8 : ∀ k, ¬ k = 113 → T8 k = T7 k := fun k z => by rw [e8, rs_ne z]
        have v8 : T8 113 0 (240 + r) = (j : Int) + 1 := by rw [e8, rs_eq, up_eq]
        have M8 : MT T8 b z s4 := by rw [e8]; exact MT_k M7 (by decide)
        have N8 : Nm τ T8 r := by rw [e8]; exact Nm_a N7 (by decide) (by omega)
        have B8 : B0 T8 s4 r (j + 1) := by
          refine B0_c (by omega) B7 ⟨rfl, rfl⟩ (fun i _ => ⟨rfl, rfl, rfl⟩) (fun i _ => ⟨rfl, rfl, rfl, rfl⟩) (fun i hi => ⟨?_, ?_, ?_⟩) ?_ ?_
          · rw [k8 111 (by decide)]
          · rw [k8 112 (by decide)]
          · rw [e8, rs_eq, up_ne (by omega)]
          · rw [k8 111 (by decide), k8 112 (by decide)]
            exact ⟨rfl, rfl⟩
          · rw [k8 114 (by decide), k8 115 (by decide), k8 116 (by decide), k8 117 (by decide)]
            exact fun i _ => ⟨rfl, rfl, rfl, rfl⟩
        unfold wp_X12_takesCond_208
        refine sm_isWord M8 (by decide) (fun y6 => ⟨in1, fun c => absurd c (by decide), fun _ => ?_⟩) (fun y6 => ⟨in0, fun _ => ?_, fun c => absurd rfl c⟩)
        · obtain ⟨t5, et5⟩ : ∃ t5, t5 = mkP 5 s4.kd s4.fr s4.to s4.len s4.fk s4.fp s4.vb s4.ob s4.tm s4.ng s4.wd s4.rl s4.vl := ⟨_, rfl⟩
          have tk5 : tke b s4 = t5 := by rw [tke9 w4, et5]; unfold tkJ; rw [cif_p y6]
          have es5 := stp_adv (z := z) tk5 (by rw [et5]; show ¬ (5 : Int) = 0; decide)
          have WF5 := WF_tke W7 (by omega) G7
          rw [tk5] at WF5
          have R4 := Rch_step nf4 R3
          rw [es5] at R4
          have to5 : t5.to = s4.to := by rw [et5]; rfl
          refine nx_m (t := t5) M8.1 (by rw [to5]; exact M8.2.2.2.1) (by rw [to5]; exact M8.2.2.2.2.2.2.1.2) N8.1 (fun T9 M9 F9 n9 i9 => ?_)
          refine q5 T9 (adv b z t5) ⟨by rw [et5]; rfl, by rw [et5]; exact l4, hr, by omega, M9, Nm_n N8 F9 i9, WF_adv WF5.1, WF5.2, ?_, ?_, ?_, R4⟩
          · refine B0_T (s := adv b z t5) ?_ n9
            rw [et5]
            exact B8
          · rw [n9 113 (by decide), v8]
            omega
          · rw [et5]
            show s4.tm r = _
            rw [tm4]
            omega
        · refine q9 T8 s4 ⟨w4, l4, hr, M8, N8, W7, G7, fun k hk => ?_, y6, R3⟩
          obtain ⟨h1, h2, h3⟩ := B8
          by_cases c : k = r
          · subst c
            refine ⟨h2, by rw [v8, tm4], by omega, fun q hq => h3 q (by omega)⟩
          · exact h1 k (by omega)
      · unfold wp_X12_takesCond_162
        refine wq T5 s3 1 M5.2.2.1 N5 R2 nf3 (stp_bad ?_)
        rw [tke8 w3]
        unfold tkVl nmI
        rw [cif_n k2, if_pos rfl]
    · unfold wp_X12_takesCond_144
      refine wq T4 s2 1 M4.2.2.1 N4 R1 nf2 (stp_bad ?_)
      rw [tke7 w2]
      unfold tkR
      rw [if_neg g]
  · unfold wp_X12_takesCond_110
    exact wq T2 p 1 M2.2.2.1 N2 hR nf (hbad y)
