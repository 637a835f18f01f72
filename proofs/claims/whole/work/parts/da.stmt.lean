/-! a statement in whole, of the reference -/
def Bd (τ T : St) (b : Nat → Int) (z : Nat) (s f : PS) (r : Nat) : Prop := s.w = 1 ∧ s.len = r ∧ r ≤ 12 ∧ MT T b z s ∧ Nm τ T r ∧ WF b z s ∧ WG s ∧ (∀ k, k < r → RowF s (T 111 0) (T 112 0) (T 113 0) (T 114 0) (T 115 0) (T 116 0) (T 117 0) k) ∧ Rch b z s f
theorem sm_187 {τ T : St} {b : Nat → Int} {z r : Nat} {p t4 f : PS} {x1 : Int} {Q : Int → St → Prop} (hr : r < 12) (hM : MT T b z p) (hN : Nm τ T r) (nf : ¬ fin p) (hR : Rch b z p f) (tk : tke b p = t4) (tw : t4.w = 4) (tt : t4.to = p.to) (tl : t4.len = r + 1) (ttm : t4.tm r = 0) (tW : WF b z t4) (tG : WG t4) (hrow : ∀ k, k < r → RowF t4 (T 111 0) (T 112 0) (T 113 0) (T 114 0) (T 115 0) (T 116 0) (T 117 0) k) (hs : Stm (t4.vb r) (t4.ob r) x1 (T 112 0 (240 + r)))
    (q0 : ∀ T', FltM τ T' f → Q 0 T') (q1 : ∀ T' s, Bd τ T' b z s f (r + 1) → Q 1 T') : wp_X12_statement_187 Q T x1 ((240 + r : Nat) : Int) := by
  have es := stp_adv (z := z) tk (by rw [tw]; decide)
  have R1 := Rch_step nf hR
  rw [es] at R1
  unfold wp_X12_statement_187
  rw [Int.toNat_natCast]
  refine ⟨by omega, by omega, fun T1 e1 => ?_⟩
  have k1 : ∀ k, ¬ k = 111 → T1 k = T k := fun k z => by rw [e1, rs_ne z]
  have M1 : MT T1 b z p := by rw [e1]; exact MT_k hM (by decide)
  have N1 : Nm τ T1 r := by rw [e1]; exact Nm_a hN (by decide) (by omega)
  have B1 : B0 T1 t4 r 0 := by
    refine ⟨fun k hk => ?_, ?_, fun q hq => absurd hq (by omega)⟩
    · refine RowF_c hk (hrow k hk) (fun i _ => ⟨rfl, rfl, rfl⟩) (fun i _ => ⟨rfl, rfl, rfl, rfl⟩) (fun i hi => ⟨?_, ?_, ?_⟩) ?_
      · rw [e1, rs_eq, up_ne (by omega)]
      · rw [k1 112 (by decide)]
      · rw [k1 113 (by decide)]
      · rw [k1 114 (by decide), k1 115 (by decide), k1 116 (by decide), k1 117 (by decide)]
        exact fun i _ => ⟨rfl, rfl, rfl, rfl⟩
    · rw [e1, rs_eq, up_eq, rs_ne (by decide)]
      exact hs
  refine nx_m (t := t4) M1.1 (by rw [tt]; exact M1.2.2.2.1) (by rw [tt]; exact M1.2.2.2.2.2.2.1.2) N1.1 (fun T2 M2 F2 n2 i2 => ?_)
  have N2 := Nm_n N1 F2 i2
  have B2 : B0 T2 (adv b z t4) r 0 := B0_T (s := adv b z t4) B1 n2
  obtain ⟨s4, es4⟩ : ∃ s4, s4 = adv b z t4 := ⟨_, rfl⟩
  have W4 : WF b z s4 := by rw [es4]; exact WF_adv tW
  have G4 : WG s4 := by rw [es4]; exact tG
  have w4 : s4.w = 4 := by rw [es4]; exact tw
  have l4 : s4.len = r + 1 := by rw [es4]; exact tl
  have tm4 : s4.tm r = 0 := by rw [es4]; exact ttm
  rw [← es4] at M2 B2 R1
  clear es4 es tk
  have nf4 : ¬ fin s4 := fun c => by rcases c with c | c <;> omega
  refine sm_isWord M2 (by decide) (fun y => ⟨in1, fun _ => ?_, fun c => absurd c (by decide)⟩) (fun y => ⟨in0, fun c => absurd rfl c, fun _ => ?_⟩)
  · obtain ⟨t5, et5⟩ : ∃ t5, t5 = mkP 5 s4.kd s4.fr s4.to s4.len s4.fk s4.fp s4.vb s4.ob s4.tm s4.ng s4.wd s4.rl s4.vl := ⟨_, rfl⟩
    have tk5 : tke b s4 = t5 := by rw [tke4 w4, et5]; unfold tkIf; rw [cif_p y]
    have es5 := stp_adv (z := z) tk5 (by rw [et5]; show ¬ (5 : Int) = 0; decide)
    have WF5 := WF_tke W4 (by omega) G4
    rw [tk5] at WF5
    have R2 := Rch_step nf4 R1
    rw [es5] at R2
    have to5 : t5.to = s4.to := by rw [et5]; rfl
    refine nx_m (t := t5) M2.1 (by rw [to5]; exact M2.2.2.2.1) (by rw [to5]; exact M2.2.2.2.2.2.2.1.2) N2.1 (fun T3 M3 F3 n3 i3 => ?_)
    have N3 := Nm_n N2 F3 i3
    have B3 : B0 T3 (adv b z t5) r 0 := by
      refine B0_T (s := adv b z t5) ?_ n3
      rw [et5]
      exact B2
    unfold wp_X12_takesCond
    rw [Int.toNat_natCast]
    refine ⟨by omega, by omega, fun T4 e4 => ⟨8, ?_⟩⟩
    have k4 : ∀ k, ¬ k = 113 → T4 k = T3 k := fun k z => by rw [e4, rs_ne z]
    have H5 : Hd5 τ T4 b z (adv b z t5) f r 0 := by
      refine ⟨by rw [et5]; rfl, by rw [et5]; exact l4, hr, by omega, by rw [e4]; exact MT_k M3 (by decide), by rw [e4]; exact Nm_a N3 (by decide) (by omega), WF_adv WF5.1, WF5.2, ?_, by rw [e4, rs_eq, up_eq]; rfl, by rw [et5]; exact tm4, R2⟩
      refine B0_c (by omega) B3 ⟨rfl, rfl⟩ (fun i _ => ⟨rfl, rfl, rfl⟩) (fun i _ => ⟨rfl, rfl, rfl, rfl⟩) (fun i hi => ⟨?_, ?_, ?_⟩) ?_ ?_
      · rw [k4 111 (by decide)]
      · rw [k4 112 (by decide)]
      · rw [e4, rs_eq, up_ne (by omega)]
      · rw [k4 111 (by decide), k4 112 (by decide)]
        exact ⟨rfl, rfl⟩
      · rw [k4 114 (by decide), k4 115 (by decide), k4 116 (by decide), k4 117 (by decide)]
        exact fun i _ => ⟨rfl, rfl, rfl, rfl⟩
    refine cond_loop (Q := fun r_10 σ_9 => inR r_10 ∧ (¬ r_10 = 0 → wp_X12_signHere σ_9 (fun r_13 σ_12 => inR r_13 ∧ (r_13 = 3 → wp_X12_next σ_12 (fun σ_15 => ∀ σ_16 : St, σ_16 = st σ_15 12 0 47 ((σ_15 12 0 47) + 1) → (Q 1 σ_16))) ∧ (¬ r_13 = 3 → wp_X12_wrong σ_12 1 (fun r_18 σ_17 => (r_18 = 0 ∨ r_18 = 1) ∧ Q r_18 σ_17)))) ∧ (r_10 = 0 → Q 0 σ_9)) (fun T' hT' => ⟨in0, fun c => absurd rfl c, fun _ => q0 T' hT'⟩) (fun T9 s9 H9 => ⟨in1, fun _ => ?_, fun c => absurd c (by decide)⟩) 5 0 8 T4 (adv b z t5) (by omega) (by omega) H5
    obtain ⟨w9, l9, -, M9, N9, W9, G9, row9, n6, R9⟩ := H9
    have nf9 : ¬ fin s9 := fun c => by rcases c with c | c <;> omega
    have sgb : -1 ≤ sgI b s9 ∧ sgI b s9 ≤ 3 := by
      unfold sgI
      by_cases c : s9.kd = 3
      · rw [cif_p c]
        unfold sgv
        repeat' split
        all_goals omega
      · rw [cif_n c]
        decide
    refine sm_sgn M9 ⟨⟨by omega, by omega⟩, fun y3 => ?_, fun y3 => ?_⟩
    · obtain ⟨t1, et1⟩ : ∃ t1, t1 = mkP 1 s9.kd s9.fr s9.to s9.len s9.fk s9.fp s9.vb s9.ob s9.tm s9.ng s9.wd s9.rl s9.vl := ⟨_, rfl⟩
      have tk1 : tke b s9 = t1 := by rw [tke9 w9, et1]; unfold tkJ; rw [cif_n n6, if_pos y3]
      have es1 := stp_adv (z := z) tk1 (by rw [et1]; show ¬ (1 : Int) = 0; decide)
      have WF1 := WF_tke W9 (by omega) G9
      rw [tk1] at WF1
      have R3 := Rch_step nf9 R9
      rw [es1] at R3
      have to1 : t1.to = s9.to := by rw [et1]; rfl
      refine nx_m (t := t1) M9.1 (by rw [to1]; exact M9.2.2.2.1) (by rw [to1]; exact M9.2.2.2.2.2.2.1.2) N9.1 (fun Ta Ma Fa na ia Tb eb => ?_)
      have Na := Nm_n N9 Fa ia
      rw [Na.2.2.2] at eb
      have kb : ∀ k, ¬ k = 12 → Tb k = Ta k := fun k z => by rw [eb, rs_ne z]
      refine q1 Tb (adv b z t1) ⟨by rw [et1]; rfl, by rw [et1]; exact l9, by omega, ?_, ⟨?_, ?_, ?_, ?_⟩, WF_adv WF1.1, WF1.2, ?_, R3⟩
      · obtain ⟨u1, u2, u3, u4, u5, u6⟩ := Ma
        rw [eb]
        refine ⟨TpM_12 u1 (by decide), by rw [rs_eq, up_ne (by decide)]; exact u2, by rw [rs_eq, up_ne (by decide)]; exact u3, by rw [rs_eq, up_ne (by decide)]; exact u4, fun c => by rw [rs_eq, up_ne (by decide)]; exact u5 c, u6⟩
      · rw [eb]
        exact FrL2_12 Na.1 (by decide)
      · rw [eb, rs_eq, up_ne (by decide)]
        exact Na.2.1
      · rw [eb, rs_eq, up_ne (by decide)]
        exact Na.2.2.1
      · rw [eb, rs_eq, up_eq]
        omega
      · rw [kb 111 (by decide), kb 112 (by decide), kb 113 (by decide), kb 114 (by decide), kb 115 (by decide), kb 116 (by decide), kb 117 (by decide), na 111 (by decide), na 112 (by decide), na 113 (by decide), na 114 (by decide), na 115 (by decide), na 116 (by decide), na 117 (by decide), et1]
        exact row9
    · refine wr_m M9.2.2.1 N9.1 N9.2.1 R9 nf9 (stp_bad ?_) (fun T' hT' => ⟨Or.inl rfl, q0 T' hT'⟩)
      rw [tke9 w9]
      unfold tkJ
      rw [cif_n n6, if_neg y3]
  · refine wr_m M2.2.2.1 N2.1 N2.2.1 R1 nf4 (stp_bad ?_) (fun T' hT' => ⟨Or.inl rfl, q0 T' hT'⟩)
    rw [tke4 w4]
    unfold tkIf
    rw [cif_n y]
theorem sm_57 {τ T : St} {b : Nat → Int} {z r : Nat} {s f : PS} {y0 : Int} {Q : Int → St → Prop} (h : Bd τ T b z s f r) (hk : ¬ s.kd = 0) (hy : (vbI (isW b s.kd s.fr s.to) = -1 ∧ y0 = -1) ∨ (vbI (isW b s.kd s.fr s.to) = 0 ∧ y0 = 0) ∨ (1 ≤ vbI (isW b s.kd s.fr s.to) ∧ vbI (isW b s.kd s.fr s.to) ≤ 3 ∧ y0 = vbI (isW b s.kd s.fr s.to) + 2))
    (q0 : ∀ T', FltM τ T' f → Q 0 T') (q1 : ∀ T' s, Bd τ T' b z s f (r + 1) → Q 1 T') : wp_X12_statement_57 Q T y0 := by
  obtain ⟨w1, l1, r12, hM, hN, hW, hG, hrow, hR⟩ := h
  have nf : ¬ fin s := fun c => by rcases c with c | c <;> omega
  unfold wp_X12_statement_57
  refine ⟨⟨by omega, by omega⟩, fun y => ?_, fun y => ?_⟩
  · have nv : ¬ vbI (isW b s.kd s.fr s.to) = -1 := by omega
    rw [hN.2.2.2]
    refine ⟨⟨by omega, by omega⟩, fun c12 v ev => ?_, fun c12 => ?_⟩
    · have hr : r < 12 := by omega
      have ev2 : v = ((240 + r : Nat) : Int) := by omega
      subst ev2
      rw [Int.toNat_natCast]
      refine ⟨by omega, by omega, fun T1 e1 => ?_⟩
      have k1 : ∀ k, ¬ k = 112 → T1 k = T k := fun k z => by rw [e1, rs_ne z]
      have M1 : MT T1 b z s := by rw [e1]; exact MT_k hM (by decide)
      have N1 : Nm τ T1 r := by rw [e1]; exact Nm_a hN (by decide) (by omega)
      have v1 : T1 112 0 (240 + r) = 0 := by rw [e1, rs_eq, up_eq]
      obtain ⟨t2, et2⟩ : ∃ t2, t2 = mkP (if vbI (isW b s.kd s.fr s.to) = 0 then 2 else 3) s.kd s.fr s.to (s.len + 1) s.fk s.fp (up s.vb s.len (vbI (isW b s.kd s.fr s.to))) s.ob (up s.tm s.len 0) s.ng s.wd s.rl s.vl := ⟨_, rfl⟩
      have tk2 : tke b s = t2 := by rw [tke1 w1, et2]; unfold tkV; rw [if_neg nv, if_neg (by omega)]
      have ew : t2.w = if vbI (isW b s.kd s.fr s.to) = 0 then 2 else 3 := by rw [et2]; rfl
      have ew0 : ¬ t2.w = 0 := by
        rw [ew]
        split <;> decide
      have es2 := stp_adv (z := z) tk2 ew0
      have WF2 := WF_tke hW (by omega) hG
      rw [tk2] at WF2
      have R1 := Rch_step nf hR
      rw [es2] at R1
      have to2 : t2.to = s.to := by rw [et2]; rfl
      have row2 : ∀ k, k < r → RowF t2 (T1 111 0) (T1 112 0) (T1 113 0) (T1 114 0) (T1 115 0) (T1 116 0) (T1 117 0) k := fun k hk => by
        refine RowF_c hk (hrow k hk) (fun i hi => ?_) (fun i _ => by rw [et2]; exact ⟨rfl, rfl, rfl, rfl⟩) (fun i hi => ⟨?_, ?_, ?_⟩) ?_
        · rw [et2]
          refine ⟨?_, rfl, ?_⟩
          · show up s.vb s.len _ i = _
            rw [up_ne (by omega)]
          · show up s.tm s.len 0 i = _
            rw [up_ne (by omega)]
        · rw [k1 111 (by decide)]
        · rw [e1, rs_eq, up_ne (by omega)]
        · rw [k1 113 (by decide)]
        · rw [k1 114 (by decide), k1 115 (by decide), k1 116 (by decide), k1 117 (by decide)]
          exact fun i _ => ⟨rfl, rfl, rfl, rfl⟩
      refine nx_m (t := t2) M1.1 (by rw [to2]; exact M1.2.2.2.1) (by rw [to2]; exact M1.2.2.2.2.2.2.1.2) N1.1 (fun T2 M2 F2 n2 i2 => ?_)
      have N2 := Nm_n N1 F2 i2
      obtain ⟨s2, es2b⟩ : ∃ s2, s2 = adv b z t2 := ⟨_, rfl⟩
      have W2 : WF b z s2 := by rw [es2b]; exact WF_adv WF2.1
      have G2 : WG s2 := by rw [es2b]; exact WF2.2
      have w2 : s2.w = if vbI (isW b s.kd s.fr s.to) = 0 then 2 else 3 := by rw [es2b]; exact ew
      have l2 : s2.len = r + 1 := by rw [es2b, et2]; show s.len + 1 = r + 1; omega
      have tm2 : s2.tm r = 0 := by
        rw [es2b, et2]
        show up s.tm s.len 0 r = 0
        rw [← l1, up_eq]
      have vb2 : s2.vb r = vbI (isW b s.kd s.fr s.to) := by
        rw [es2b, et2]
        show up s.vb s.len _ r = _
        rw [← l1, up_eq]
      have rw2 : ∀ k, k < r → RowF s2 (T2 111 0) (T2 112 0) (T2 113 0) (T2 114 0) (T2 115 0) (T2 116 0) (T2 117 0) k := by
        rw [n2 111 (by decide), n2 112 (by decide), n2 113 (by decide), n2 114 (by decide), n2 115 (by decide), n2 116 (by decide), n2 117 (by decide), es2b]
        exact row2
      have v2 : T2 112 0 (240 + r) = 0 := by rw [n2 112 (by decide), v1]
      rw [← es2b] at M2 R1
      clear es2b et2 tk2 es2 WF2 to2 row2
      have wr : 2 ≤ s2.w ∧ s2.w ≤ 3 := by
        rw [w2]
        split <;> decide
      have nf2 : ¬ fin s2 := fun c => by rcases c with c | c <;> omega
      have W2c := WF_tke W2 (by omega) G2
      -- the object
      have obj : ∀ (o : Int) (T3 : St) (x : Int), tke b s2 = tkO o s2 → ¬ o = -1 → MT T3 b z s2 → Nm τ T3 r → (∀ k, k < r → RowF s2 (T3 111 0) (T3 112 0) (T3 113 0) (T3 114 0) (T3 115 0) (T3 116 0) (T3 117 0) k) → Stm (s2.vb r) o x (T3 112 0 (240 + r)) → wp_X12_statement_187 Q T3 x ((240 + r : Nat) : Int) := by
        intro o T3 x tkO2 no M3 N3 row3 hs
        have et : tkO o s2 = mkP 4 s2.kd s2.fr s2.to s2.len s2.fk s2.fp s2.vb (up s2.ob (s2.len - 1) o) s2.tm s2.ng s2.wd s2.rl s2.vl := by unfold tkO; rw [if_neg no]
        rw [tkO2, et] at W2c
        refine sm_187 (t4 := mkP 4 s2.kd s2.fr s2.to s2.len s2.fk s2.fp s2.vb (up s2.ob (s2.len - 1) o) s2.tm s2.ng s2.wd s2.rl s2.vl) hr M3 N3 nf2 R1 (by rw [tkO2, et]) rfl rfl l2 tm2 W2c.1 W2c.2 (fun k hk => ?_) ?_ q0 q1
        · refine RowF_c hk (row3 k hk) (fun i hi => ⟨rfl, ?_, rfl⟩) (fun i _ => ⟨rfl, rfl, rfl, rfl⟩) (fun i _ => ⟨rfl, rfl, rfl⟩) (fun i _ => ⟨rfl, rfl, rfl, rfl⟩)
          show up s2.ob (s2.len - 1) o i = _
          rw [up_ne (by omega)]
        · show Stm (s2.vb r) (up s2.ob (s2.len - 1) o r) x (T3 112 0 (240 + r))
          rw [show s2.len - 1 = r by omega, up_eq]
          exact hs
      refine ⟨⟨by omega, by omega⟩, fun yn => ?_, fun y0z => ?_⟩
      · have w3 : s2.w = 3 := by rw [w2, if_neg (by omega)]
        have k5 := M2.2.2.2.2.2.2.2.1
        rw [M2.2.1]
        refine ⟨⟨by omega, by omega⟩, fun kd2 => ⟨by omega, by omega, fun T3 e3 => ?_⟩, fun kd2 => ?_⟩
        · have nv := W2.2.2.2.2.2.2.2.2 kd2
          have en : nmI b s2 = nmv b s2.fr (s2.to - s2.fr) := by unfold nmI; rw [cif_p kd2]
          rw [M2.2.2.2.2.1 kd2, ← en] at e3
          have k3 : ∀ k, ¬ k = 112 → T3 k = T2 k := fun k z => by rw [e3, rs_ne z]
          have v3 : T3 112 0 (240 + r) = nmI b s2 := by rw [e3, rs_eq, up_eq]
          refine obj (nmI b s2) T3 y0 (tke3 w3) (by omega) (by rw [e3]; exact MT_k M2 (by decide)) (by rw [e3]; exact Nm_a N2 (by decide) (by omega)) (fun k hk => ?_) ?_
          · refine RowF_c hk (rw2 k hk) (fun i _ => ⟨rfl, rfl, rfl⟩) (fun i _ => ⟨rfl, rfl, rfl, rfl⟩) (fun i hi => ⟨?_, ?_, ?_⟩) ?_
            · rw [k3 111 (by decide)]
            · rw [e3, rs_eq, up_ne (by omega)]
            · rw [k3 113 (by decide)]
            · rw [k3 114 (by decide), k3 115 (by decide), k3 116 (by decide), k3 117 (by decide)]
              exact fun i _ => ⟨rfl, rfl, rfl, rfl⟩
          · rw [v3, vb2]
            refine Or.inr ⟨by omega, by omega, by omega, rfl, by omega, by omega⟩
        · refine wr_m M2.2.2.1 N2.1 N2.2.1 R1 nf2 (stp_bad ?_) (fun T' hT' => ⟨Or.inl rfl, q0 T' hT'⟩)
          rw [tke3 w3]
          unfold tkO nmI
          rw [cif_n kd2, if_pos rfl]
      · have v0 : vbI (isW b s.kd s.fr s.to) = 0 := by omega
        have w22 : s2.w = 2 := by rw [w2, if_pos v0]
        have s151 : ∀ o : Int, o = dbI (isW b s2.kd s2.fr s2.to) → wp_X12_statement_151 Q T2 ((240 + r : Nat) : Int) o := by
          intro o eo
          have db := dbI_b (P := isW b s2.kd s2.fr s2.to)
          unfold wp_X12_statement_151
          refine ⟨⟨by omega, by omega⟩, fun no => ?_, fun yo => ?_⟩
          · refine obj o T2 o (by rw [tke2 w22, eo]) no M2 N2 rw2 ?_
            rw [vb2, v0]
            exact Or.inl ⟨rfl, by omega, by omega, rfl⟩
          · refine wr_m M2.2.2.1 N2.1 N2.2.1 R1 nf2 (stp_bad ?_) (fun T' hT' => ⟨Or.inl rfl, q0 T' hT'⟩)
            rw [tke2 w22, ← eo]
            unfold tkO
            rw [if_pos yo]
        unfold dbI at s151
        refine sm_isWord M2 (by decide) (fun a => ⟨in1, fun c => absurd c (by decide), fun _ => s151 0 (by rw [cif_p a])⟩) (fun a => ⟨in0, fun _ => ?_, fun c => absurd rfl c⟩)
        refine sm_isWord M2 (by decide) (fun a2 => ⟨in1, fun c => absurd c (by decide), fun _ => s151 1 (by rw [cif_n a, cif_p a2])⟩) (fun a2 => ⟨in0, fun _ => ?_, fun c => absurd rfl c⟩)
        refine sm_isWord M2 (by decide) (fun a3 => ⟨in1, fun c => absurd c (by decide), fun _ => s151 2 (by rw [cif_n a, cif_n a2, cif_p a3])⟩) (fun a3 => ⟨in0, fun _ => s151 (-1) (by rw [cif_n a, cif_n a2, cif_n a3]), fun c => absurd rfl c⟩)
    · refine wr_m hM.2.2.1 hN.1 hN.2.1 hR nf (stp_bad ?_) (fun T' hT' => ⟨Or.inl rfl, q0 T' hT'⟩)
      rw [tke1 w1]
      unfold tkV
      rw [if_neg nv, if_pos (by omega)]
  · refine wr_m hM.2.2.1 hN.1 hN.2.1 hR nf (stp_bad ?_) (fun T' hT' => ⟨Or.inl rfl, q0 T' hT'⟩)
    rw [tke1 w1]
    unfold tkV
    rw [if_pos (by omega)]
theorem sm_stmt {τ T : St} {b : Nat → Int} {z r : Nat} {s f : PS} {Q : Int → St → Prop} (h : Bd τ T b z s f r) (hk : ¬ s.kd = 0) (q0 : ∀ T', FltM τ T' f → Q 0 T') (q1 : ∀ T' s, Bd τ T' b z s f (r + 1) → Q 1 T') : wp_X12_statement T Q := by
  have hM := h.2.2.2.1
  have g := fun y0 hy => sm_57 (y0 := y0) h hk hy q0 q1
  unfold vbI at g
  unfold wp_X12_statement
  refine sm_isWord hM (by decide) (fun a => ⟨in1, fun c => absurd c (by decide), fun _ => g 0 (by rw [cif_p a]; omega)⟩) (fun a => ⟨in0, fun _ => ?_, fun c => absurd rfl c⟩)
  refine sm_isWord hM (by decide) (fun a2 => ⟨in1, fun c => absurd c (by decide), fun _ => g 3 (by rw [cif_n a, cif_p a2]; omega)⟩) (fun a2 => ⟨in0, fun _ => ?_, fun c => absurd rfl c⟩)
  refine sm_isWord hM (by decide) (fun a3 => ⟨in1, fun c => absurd c (by decide), fun _ => g 4 (by rw [cif_n a, cif_n a2, cif_p a3]; omega)⟩) (fun a3 => ⟨in0, fun _ => ?_, fun c => absurd rfl c⟩)
  exact sm_isWord hM (by decide) (fun a4 => ⟨in1, fun c => absurd c (by decide), fun _ => g 5 (by rw [cif_n a, cif_n a2, cif_n a3, cif_p a4]; omega)⟩) (fun a4 => ⟨in0, fun _ => g (-1) (by rw [cif_n a, cif_n a2, cif_n a3, cif_n a4]; omega), fun c => absurd rfl c⟩)
