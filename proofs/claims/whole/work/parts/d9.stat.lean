/-! a statement, of the reference -/
theorem cond_loop {τ : St} {b : Nat → Int} {z r : Nat} {f : PS} {Q : Int → St → Prop} (q0 : ∀ T', FltM τ T' f → Q 0 T') (q9 : ∀ T' s, Hd9 τ T' b z s f r → Q 1 T') :
    ∀ (k j n : Nat) (T : St) (s : PS), j + k = 5 → k + 1 < n → Hd5 τ T b z s f r j → wp_X12_takesCond_9 (wp_X12_takesCond_31 Q) (wp_X12_takesCond_47 Q) (wp_X12_takesCond_110 Q) (wp_X12_takesCond_144 Q) (wp_X12_takesCond_162 Q) Q n T ((240 + r : Nat) : Int) 1 := by
  intro k
  induction k with
  | zero =>
    intro j n T s hk hn h
    obtain ⟨n, rfl⟩ : ∃ n', n = n' + 1 := ⟨n - 1, by omega⟩
    obtain ⟨w5, hl, hr, hj, hM, hN, hW, hG, hB, h113, htm, hR⟩ := h
    have nf : ¬ fin s := fun c => by rcases c with c | c <;> omega
    have fb := fcI_b (P := isW b s.kd s.fr s.to) 13 0
    have e5 : (j : Int) = 5 := by omega
    have tl : s.tm (s.len - 1) = 5 := by rw [hl, show r + 1 - 1 = r by omega, htm, e5]
    have w37 : ¬ (¬ isW b s.kd s.fr s.to 4 ∧ fcI (isW b s.kd s.fr s.to) 13 0 = -1) → wp_X12_takesCond_37 (fun σ x1 x2 => wp_X12_takesCond_9 (wp_X12_takesCond_31 Q) (wp_X12_takesCond_47 Q) (wp_X12_takesCond_110 Q) (wp_X12_takesCond_144 Q) (wp_X12_takesCond_162 Q) Q n σ x1 x2) (wp_X12_takesCond_31 Q) (wp_X12_takesCond_47 Q) (wp_X12_takesCond_110 Q) (wp_X12_takesCond_144 Q) (wp_X12_takesCond_162 Q) Q T ((240 + r : Nat) : Int) := by
      intro hno
      unfold wp_X12_takesCond_37 wp_X12_takesCond_47
      rw [Int.toNat_natCast, h113, e5]
      refine ⟨by omega, by omega, ⟨by decide, by decide⟩, fun c => absurd rfl c, fun _ => wr_m hM.2.2.1 hN.1 hN.2.1 hR nf (stp_bad ?_) (fun T' hT' => ⟨Or.inl rfl, q0 T' hT'⟩)⟩
      rw [tke5 w5]
      unfold tkTm
      rw [cif_n hno, tl, if_pos (by decide)]
    unfold wp_X12_takesCond_9
    refine ⟨in1, fun c => absurd c (by decide), fun _ => sm_isWord hM (by decide) (fun y => ⟨in1, fun _ => w37 (fun c => c.1 y), fun c => absurd c (by decide)⟩) (fun y => ⟨in0, fun c => absurd rfl c, fun _ => sm_fact hM ⟨⟨by omega, by omega⟩, fun u => w37 (fun c => u c.2), fun u => ?_⟩⟩)⟩
    unfold wp_X12_takesCond_31
    refine wr_m hM.2.2.1 hN.1 hN.2.1 hR nf (stp_bad ?_) (fun T' hT' => ⟨Or.inl rfl, q0 T' hT'⟩)
    rw [tke5 w5]
    unfold tkTm
    rw [cif_p ⟨y, u⟩]
  | succ k ih =>
    intro j n T s hk hn h
    obtain ⟨n, rfl⟩ : ∃ n', n = n' + 1 := ⟨n - 1, by omega⟩
    obtain ⟨w5, hl, hr, hj, hM, hN, hW, hG, hB, h113, htm, hR⟩ := h
    have nf : ¬ fin s := fun c => by rcases c with c | c <;> omega
    have fb := fcI_b (P := isW b s.kd s.fr s.to) 13 0
    have er : s.len - 1 = r := by omega
    have ti : tix s = 5 * r + j := by
      unfold tix
      rw [er, htm]
      omega
    have k9 : ∀ (T' : St) (x : PS), Hd9 τ T' b z x f r → wp_X12_takesCond_9 (wp_X12_takesCond_31 Q) (wp_X12_takesCond_47 Q) (wp_X12_takesCond_110 Q) (wp_X12_takesCond_144 Q) (wp_X12_takesCond_162 Q) Q n T' ((240 + r : Nat) : Int) 0 := by
      intro T' x hx
      obtain ⟨m, rfl⟩ : ∃ m, n = m + 1 := ⟨n - 1, by omega⟩
      unfold wp_X12_takesCond_9
      exact ⟨in0, fun _ => q9 T' x hx, fun c => absurd rfl c⟩
    have w37 : ¬ (¬ isW b s.kd s.fr s.to 4 ∧ fcI (isW b s.kd s.fr s.to) 13 0 = -1) → wp_X12_takesCond_37 (fun σ x1 x2 => wp_X12_takesCond_9 (wp_X12_takesCond_31 Q) (wp_X12_takesCond_47 Q) (wp_X12_takesCond_110 Q) (wp_X12_takesCond_144 Q) (wp_X12_takesCond_162 Q) Q n σ x1 x2) (wp_X12_takesCond_31 Q) (wp_X12_takesCond_47 Q) (wp_X12_takesCond_110 Q) (wp_X12_takesCond_144 Q) (wp_X12_takesCond_162 Q) Q T ((240 + r : Nat) : Int) := by
      intro hno
      have l5 : ¬ 5 ≤ s.tm (s.len - 1) := by rw [er, htm]; omega
      unfold wp_X12_takesCond_37
      rw [Int.toNat_natCast, h113]
      refine ⟨by omega, by omega, ⟨by omega, by omega⟩, fun _ => ⟨by omega, by omega, fun v ev => ?_⟩, fun c => absurd c (by omega)⟩
      have ev2 : v = ((1200 + (5 * r + j) : Nat) : Int) := by omega
      subst ev2
      have WT := WF_tke hW (by omega) hG
      refine sm_isWord hM (by decide) (fun y => ?_) (fun y => ?_)
      · rw [Int.toNat_natCast]
        refine ⟨by omega, by omega, Or.inr rfl, fun T1 e1 => ⟨by omega, by omega, ?_⟩⟩
        have v1 : T1 114 0 (1200 + (5 * r + j)) = 1 := by rw [e1, rs_eq, up_eq]
        have k1 : ∀ k, ¬ k = 114 → T1 k = T k := fun k z => by rw [e1, rs_ne z]
        have M1 : MT T1 b z s := by rw [e1]; exact MT_k hM (by decide)
        have N1 : Nm τ T1 r := by rw [e1]; exact Nm_b hN (by decide) (by omega) (fun _ => by decide)
        rw [v1]
        refine ⟨in1, fun c => absurd c (by decide), fun _ => ?_⟩
        obtain ⟨t6, et6⟩ : ∃ t6, t6 = mkP 6 s.kd s.fr s.to s.len s.fk s.fp s.vb s.ob (up s.tm (s.len - 1) (s.tm (s.len - 1) + 1)) (up s.ng (tix s) 1) s.wd s.rl s.vl := ⟨_, rfl⟩
        have tk6 : tke b s = t6 := by
          rw [tke5 w5, et6]
          unfold tkTm
          rw [cif_n hno, if_neg l5, cif_p y]
        rw [tk6] at WT
        have es6 := stp_adv (z := z) tk6 (by rw [et6]; show ¬ (6 : Int) = 0; decide)
        have R1 := Rch_step nf hR
        rw [es6] at R1
        have to6 : t6.to = s.to := by rw [et6]; rfl
        refine nx_m (t := t6) M1.1 (by rw [to6]; exact M1.2.2.2.1) (by rw [to6]; exact M1.2.2.2.2.2.2.1.2) N1.1 (fun T2 M2 F2 n2 i2 => ?_)
        have N2 := Nm_n N1 F2 i2
        obtain ⟨s6, es6b⟩ : ∃ s6, s6 = adv b z t6 := ⟨_, rfl⟩
        have W6 : WF b z s6 := by rw [es6b]; exact WF_adv WT.1
        have G6 : WG s6 := by rw [es6b]; exact WT.2
        have w6 : s6.w = 6 := by rw [es6b, et6]; rfl
        have l6 : s6.len = r + 1 := by rw [es6b, et6]; exact hl
        have tm6 : s6.tm r = (j : Int) + 1 := by
          rw [es6b, et6]
          show up s.tm (s.len - 1) (s.tm (s.len - 1) + 1) r = _
          rw [er, up_eq, htm]
        have ng6 : s6.ng (5 * r + j) = 1 := by
          rw [es6b, et6]
          show up s.ng (tix s) 1 (5 * r + j) = 1
          rw [ti, up_eq]
        have ti6 : tix s6 - 1 = 5 * r + j := by
          unfold tix
          rw [l6, show r + 1 - 1 = r by omega, tm6]
          omega
        have B6 : B0 T2 s6 r j := by
          refine B0_c (by omega) hB (by rw [es6b, et6]; exact ⟨rfl, rfl⟩) (fun i hi => by
            rw [es6b, et6]
            refine ⟨rfl, rfl, ?_⟩
            show up s.tm (s.len - 1) (s.tm (s.len - 1) + 1) i = _
            rw [up_ne (by omega)]) (fun i hi => by
            rw [es6b, et6]
            refine ⟨?_, rfl, rfl, rfl⟩
            show up s.ng (tix s) 1 i = _
            rw [up_ne (by omega)]) ?_ ?_ (fun i hi => ⟨?_, ?_, ?_, ?_⟩)
          · rw [n2 111 (by decide), n2 112 (by decide), n2 113 (by decide), k1 111 (by decide), k1 112 (by decide), k1 113 (by decide)]
            exact fun i _ => ⟨rfl, rfl, rfl⟩
          · rw [n2 111 (by decide), n2 112 (by decide), k1 111 (by decide), k1 112 (by decide)]
            exact ⟨rfl, rfl⟩
          · rw [n2 114 (by decide), e1, rs_eq, up_ne (by omega)]
          · rw [n2 115 (by decide), k1 115 (by decide)]
          · rw [n2 116 (by decide), k1 116 (by decide)]
          · rw [n2 117 (by decide), k1 117 (by decide)]
        rw [← es6b] at M2 R1
        have v2 : T2 114 0 (1200 + (5 * r + j)) = 1 := by rw [n2 114 (by decide), v1]
        have h2113 : T2 113 0 (240 + r) = (j : Int) := by rw [n2 113 (by decide), k1 113 (by decide), h113]
        clear es6b et6 tk6 es6 WT to6
        have nf6 : ¬ fin s6 := fun c => by rcases c with c | c <;> omega
        have W6c := W6
        obtain ⟨a1, a2, a3, a4, a5, a6, a7, a8, a9⟩ := W6c
        obtain ⟨t7, et7⟩ : ∃ t7, t7 = mkP 7 s6.kd s6.fr s6.to s6.len s6.fk s6.fp s6.vb s6.ob s6.tm s6.ng (up s6.wd (tix s6 - 1) (fcI (isW b s6.kd s6.fr s6.to) 13 0)) s6.rl s6.vl := ⟨_, rfl⟩
        refine term_m (t := t7) hr (by omega) M2 N2 nf6 R1 (fun u => stp_bad ?_) (fun u => stp_adv ?_ ?_) (by rw [et7]; rfl) (by rw [et7]; rfl) (by rw [et7]; exact l6) (by rw [et7]; exact tm6) ?_ (by rw [et7, v2]; exact ng6) (by rw [et7]; show 0 ≤ s6.ng (5 * r + j) ∧ s6.ng (5 * r + j) ≤ 1; omega) ?_ ?_ ?_ h2113 q0 (fun T' x hx => ih (j + 1) n T' x (by omega) (by omega) hx) k9
        · rw [tke6 w6]
          unfold tkWd
          rw [if_pos u]
        · rw [tke6 w6, et7]
          unfold tkWd
          rw [if_neg u]
        · rw [et7]
          show ¬ (7 : Int) = 0
          decide
        · refine B0_c (by omega) B6 (by rw [et7]; exact ⟨rfl, rfl⟩) (fun i _ => by rw [et7]; exact ⟨rfl, rfl, rfl⟩) (fun i hi => by
            rw [et7]
            refine ⟨rfl, ?_, rfl, rfl⟩
            show up s6.wd (tix s6 - 1) _ i = _
            rw [ti6, up_ne (by omega)]) (fun i _ => ⟨rfl, rfl, rfl⟩) ⟨rfl, rfl⟩ (fun i _ => ⟨rfl, rfl, rfl, rfl⟩)
        · rw [et7]
          show up s6.wd (tix s6 - 1) _ (5 * r + j) = _
          rw [ti6, up_eq]
        · rw [et7]
          exact ⟨⟨show (0 : Int) ≤ 7 by decide, show (7 : Int) ≤ 9 by decide⟩, a2, a3, fun _ => a4 (by omega), fun _ => a5 (by omega), a6, a7, a8, a9⟩
        · rw [et7]
          exact ⟨fun c => absurd (show (7 : Int) = 0 from c) (by decide), fun _ => G6.2 (by omega)⟩
      · have fo : ¬ fcI (isW b s.kd s.fr s.to) 13 0 = -1 := fun c => hno ⟨y, c⟩
        rw [Int.toNat_natCast]
        refine ⟨by omega, by omega, Or.inl rfl, fun T1 e1 => ⟨by omega, by omega, ?_⟩⟩
        have v1 : T1 114 0 (1200 + (5 * r + j)) = 0 := by rw [e1, rs_eq, up_eq]
        have k1 : ∀ k, ¬ k = 114 → T1 k = T k := fun k z => by rw [e1, rs_ne z]
        have M1 : MT T1 b z s := by rw [e1]; exact MT_k hM (by decide)
        have N1 : Nm τ T1 r := by rw [e1]; exact Nm_b hN (by decide) (by omega) (fun _ => by decide)
        rw [v1]
        refine ⟨in0, fun _ => ?_, fun c => absurd rfl c⟩
        obtain ⟨t7, et7⟩ : ∃ t7, t7 = mkP 7 s.kd s.fr s.to s.len s.fk s.fp s.vb s.ob (up s.tm r ((j : Int) + 1)) (up s.ng (5 * r + j) 0) (up s.wd (5 * r + j) (fcI (isW b s.kd s.fr s.to) 13 0)) s.rl s.vl := ⟨_, rfl⟩
        have tk7 : tke b s = t7 := by
          rw [tke5 w5, et7]
          unfold tkTm
          rw [cif_n hno, if_neg l5, cif_n y]
          unfold tkWd
          rw [if_neg fo]
          have eti : tix (mkP s.w s.kd s.fr s.to s.len s.fk s.fp s.vb s.ob (up s.tm (s.len - 1) (s.tm (s.len - 1) + 1)) (up s.ng (tix s) 0) s.wd s.rl s.vl) - 1 = 5 * r + j := by
            unfold tix
            show 5 * (s.len - 1) + (up s.tm (s.len - 1) (s.tm (s.len - 1) + 1) (s.len - 1)).toNat - 1 = _
            rw [up_eq, er, htm]
            omega
          rw [eti, ti, er, htm]
          rfl
        rw [tk7] at WT
        refine term_m (t := t7) hr (by omega) M1 N1 nf hR (fun u => absurd u fo) (fun u => stp_adv tk7 ?_) (by rw [et7]; rfl) (by rw [et7]; rfl) (by rw [et7]; exact hl) ?_ ?_ ?_ ?_ ?_ WT.1 WT.2 (by rw [k1 113 (by decide), h113]) q0 (fun T' x hx => ih (j + 1) n T' x (by omega) (by omega) hx) k9
        · rw [et7]
          show ¬ (7 : Int) = 0
          decide
        · rw [et7]
          show up s.tm r ((j : Int) + 1) r = _
          rw [up_eq]
        · refine B0_c (by omega) hB (by rw [et7]; exact ⟨rfl, rfl⟩) (fun i hi => by
            rw [et7]
            refine ⟨rfl, rfl, ?_⟩
            show up s.tm r ((j : Int) + 1) i = _
            rw [up_ne (by omega)]) (fun i hi => by
            rw [et7]
            refine ⟨?_, ?_, rfl, rfl⟩
            · show up s.ng (5 * r + j) 0 i = _
              rw [up_ne (by omega)]
            · show up s.wd (5 * r + j) _ i = _
              rw [up_ne (by omega)]) ?_ ?_ (fun i hi => ⟨?_, ?_, ?_, ?_⟩)
          · rw [k1 111 (by decide), k1 112 (by decide), k1 113 (by decide)]
            exact fun i _ => ⟨rfl, rfl, rfl⟩
          · rw [k1 111 (by decide), k1 112 (by decide)]
            exact ⟨rfl, rfl⟩
          · rw [e1, rs_eq, up_ne (by omega)]
          · rw [k1 115 (by decide)]
          · rw [k1 116 (by decide)]
          · rw [k1 117 (by decide)]
        · rw [et7, v1]
          show up s.ng (5 * r + j) 0 (5 * r + j) = 0
          rw [up_eq]
        · rw [et7]
          show 0 ≤ up s.ng (5 * r + j) 0 (5 * r + j) ∧ up s.ng (5 * r + j) 0 (5 * r + j) ≤ 1
          rw [up_eq]
          decide
        · rw [et7]
          show up s.wd (5 * r + j) _ (5 * r + j) = _
          rw [up_eq]
    unfold wp_X12_takesCond_9
    refine ⟨in1, fun c => absurd c (by decide), fun _ => sm_isWord hM (by decide) (fun y => ⟨in1, fun _ => w37 (fun c => c.1 y), fun c => absurd c (by decide)⟩) (fun y => ⟨in0, fun c => absurd rfl c, fun _ => sm_fact hM ⟨⟨by omega, by omega⟩, fun u => w37 (fun c => u c.2), fun u => ?_⟩⟩)⟩
    unfold wp_X12_takesCond_31
    refine wr_m hM.2.2.1 hN.1 hN.2.1 hR nf (stp_bad ?_) (fun T' hT' => ⟨Or.inl rfl, q0 T' hT'⟩)
    rw [tke5 w5]
    unfold tkTm
    rw [cif_p ⟨y, u⟩]
