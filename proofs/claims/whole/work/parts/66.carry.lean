/-! whyWay, due, shop, carry -/
theorem qx_way {n : Nat} {σ : St} {j : Nat} {Q : St → Prop} (hI : Inv n σ) (hw : σ 50 10 j ≠ 0) (h2 : 0 ≤ σ 10 j 1 ∧ σ 10 j 1 ≤ 63) (q : ∀ f, FcWay σ (σ 10 j 1) (σ 10 j 0) f → Q (sta σ 75 0 f)) : wp_X11_askOfWay σ j Q :=
  sx_askOfWay (SkyX.of hI.1) (LandX.of hI.2.1 hI.2.2.2.2.2.2.1.2.1.2).1 hw h2.1 h2.2 q
theorem qm_way {n : Nat} {σ τ : St} {c k : Int} {Q : St → Prop} (hI : Inv n σ) (e : MEq σ τ) (h2 : 0 ≤ c ∧ c ≤ 63) (q : ∀ g, FcWay σ c k g → Q (sta τ 119 0 g)) : wp_X12_asks τ c (fun s => ∀ s1 : St, s1 = st s 119 0 (Int.toNat 12) k → Q s1) := by
  obtain ⟨sr, ly, -, ⟨e1, e2, e3, e4⟩, -, w0, w1, w2⟩ := e.facts hI
  refine sm_asks sr (by omega) h2.2 ly.1 (fun z => absurd z (by omega)) (fun _ g hg s1 es => ?_)
  rw [st_stae] at es
  rw [es]
  refine q _ ?_
  rw [e1, e2, e3, e4, w0, w1, w2] at hg
  obtain ⟨⟨f0, f1, f2, f3⟩, ⟨f4, f5, f6, f7, f8⟩, f9, f10, f11, f12⟩ := hg
  refine ⟨?_, ?_, ?_, ?_, ?_, ?_, ?_, ?_, ?_, ?_, ?_, ?_, ?_⟩ <;> simp (decide := true) only [up, ite_true, ite_false, f0, f1, f2, f3, f4, f5, f6, f7, f8, f9, f10, f11]
theorem qx_crew {n : Nat} {σ : St} {c : Int} {Q : St → Prop} (hI : Inv n σ) (q : ∀ f, FcCrew σ c f → Q (sta σ 75 0 f)) : wp_X8_askOfDay σ (fun s => ∀ s1 : St, s1 = st s 75 0 (Int.toNat 11) c → Q s1) := by
  refine sx_askOfDay (SkyX.of hI.1) (fun f hf s1 es => ?_)
  rw [st_stae] at es
  rw [es]
  refine q _ ?_
  obtain ⟨⟨f0, f1, f2, f3⟩, ⟨f4, f5, f6, f7, f8⟩, f9, f10, f11, f12⟩ := hf
  refine ⟨?_, ?_, ?_, ?_, ?_, ?_, ?_, ?_, ?_, ?_, ?_, ?_, ?_⟩ <;> simp (decide := true) only [up, ite_true, ite_false, f0, f1, f2, f3, f4, f5, f6, f7, f8, f9, f10, f12]
theorem qm_crew {n : Nat} {σ τ : St} {c : Int} {Q : St → Prop} (hI : Inv n σ) (e : MEq σ τ) (q : ∀ g, FcCrew σ c g → Q (sta τ 119 0 g)) : wp_X12_asks τ (-1) (fun s => ∀ s1 : St, s1 = st s 119 0 (Int.toNat 11) c → Q s1) := by
  obtain ⟨sr, ly, -, ⟨e1, e2, e3, e4⟩, -, w0, w1, w2⟩ := e.facts hI
  refine sm_asks sr (by omega) (by omega) ly.1 (fun _ g hg s1 es => ?_) (fun z => absurd z (by omega))
  rw [st_stae] at es
  rw [es]
  refine q _ ?_
  rw [e1, w0, w1, w2] at hg
  obtain ⟨⟨f0, f1, f2, f3⟩, ⟨f4, f5, f6, f7, f8⟩, f9, f10, f11, f12⟩ := hg
  refine ⟨?_, ?_, ?_, ?_, ?_, ?_, ?_, ?_, ?_, ?_, ?_, ?_, ?_⟩ <;> simp (decide := true) only [up, ite_true, ite_false, f0, f1, f2, f3, f4, f5, f6, f7, f8, f9, f10, f12]
/-- pay, credit or rent of a crew, of the class -/
theorem qx_numberFor {n : Nat} {σ : St} {c verb : Int} {Q : Int → St → Prop} (hI : Inv n σ) (hc : inR c) (hd : 1 ≤ verb ∧ verb ≤ 3) (q : ∀ f r, FcCrew σ c f → NumF σ f verb r → 0 ≤ r ∧ r ≤ 9999 → Q r (sta σ 75 0 f)) : wp_X11_numberFor σ c verb Q := by
  unfold wp_X11_numberFor
  exact qx_crew hI (fun f hf => qx_num hI hd (FcCrew_in hI hf hc) (fun r hr => q f r hf hr (numF_b hI hd hr)))
theorem qm_dueOf {n : Nat} {σ τ : St} {c what r : Int} {f : Nat → Int} {Q : Int → St → Prop} (hI : Inv n σ) (e : MEq σ τ) (hc : inR c) (hd : 0 ≤ what ∧ what ≤ 2) (hf : FcCrew σ c f) (hr : NumF σ f (what + 1) r) (q : ∀ g, Q r (sta τ 119 0 g)) : wp_X12_dueOf τ c what Q := by
  unfold wp_X12_dueOf
  exact qm_crew hI e (fun g hg => qm_num hI e (FcCrew_in hI hg hc) (Fc_eq hf hg) (by omega) (by omega) hr (fun _ => q g))
theorem op_due {n : Nat} {σ : St} {x1 x2 : Int} (hI : Inv n σ) (h1 : inR x1) (h2 : inR x2) : wp_X11_due σ x1 x2 (fun r σ1 => wp_X12_due σ1 x1 x2 (fun r2 σ2 => r2 = r ∧ Inv (n + 1) σ2)) := by
  have hI0 := hI
  obtain ⟨a_sky, a_land, a_price, a_ints, a_logA, a_logB, a_live, a_lying, a_ways, a_crews, a_dbl, a_tape, a_law, a_ord, a_spur, a_cuts, a_cru, a_kf, a_tn⟩ := hI
  have v1 := a_crews.1
  have hno : ¬ (0 ≤ x1 ∧ x1 < σ 11 0 11 ∧ 0 ≤ x2 ∧ x2 ≤ 2) → wp_X12_due σ x1 x2 (fun r2 σ2 => r2 = -1 ∧ Inv (n + 1) σ2) := by
    intro hc τ eτ
    have t1 : τ 12 0 60 = σ 12 0 60 := by rw [eτ, rs_eq, up_ne (by decide)]
    have hi : Inv (n + 1) τ := by rw [eτ]; exact Inv_t hI0
    unfold wp_X12_isCrew
    refine wi_m h1 in0 ⟨by omega, by omega⟩ (fun a b => ⟨Or.inr rfl, in1, fun c => absurd c (by decide), fun _ => ?_⟩) (fun a => ⟨Or.inl rfl, in0, fun _ => ⟨rfl, hi⟩, fun c => absurd rfl c⟩)
    exact wi_m h2 in0 ⟨by decide, by decide⟩ (fun a2 b2 => absurd (by omega) hc) (fun a => ⟨in0, fun _ => ⟨rfl, hi⟩, fun c => absurd rfl c⟩)
  unfold wp_X11_due
  refine crewAt_x a_crews h1 (fun u1 u2 => ?_) (fun u => hno (by omega))
  refine wi_x h2 in0 ⟨by decide, by decide⟩ (fun a2 b2 => ⟨in1, fun _ => ?_, fun c => absurd c (by decide)⟩) (fun a => ⟨in0, fun c => absurd rfl c, fun _ => hno (by omega)⟩)
  refine qx_numberFor hI0 h1 (by omega) (fun f r hf hr _ => ?_)
  intro τ eτ
  have t1 : τ 12 0 60 = σ 12 0 60 := by rw [eτ, rs_eq, up_ne (by decide), ra_ne (by decide)]
  have em : MEq σ τ := by rw [eτ]; exact MEq_q
  unfold wp_X12_isCrew
  refine wi_m h1 in0 ⟨by omega, by omega⟩ (fun _ _ => ⟨Or.inr rfl, in1, fun c => absurd c (by decide), fun _ => ?_⟩) (fun a => absurd (by omega) a)
  refine wi_m h2 in0 ⟨by decide, by decide⟩ (fun _ _ => ⟨in1, fun c => absurd c (by decide), fun _ => ?_⟩) (fun a => absurd (by omega) a)
  rw [Int.add_comm] at hr
  refine qm_dueOf hI0 em h1 (by omega) hf hr (fun g => ⟨rfl, ?_⟩)
  rw [eτ]
  exact Inv_q hI0
theorem op_whyWay {n : Nat} {σ : St} {x1 : Int} (hI : Inv n σ) (h1 : inR x1) : wp_X11_whyWay σ x1 (fun r σ1 => wp_X12_whyWay σ1 x1 (fun r2 σ2 => r2 = r ∧ Inv (n + 1) σ2)) := by
  have hI0 := hI
  obtain ⟨a_sky, a_land, a_price, a_ints, a_logA, a_logB, a_live, a_lying, a_ways, a_crews, a_dbl, a_tape, a_law, a_ord, a_spur, a_cuts, a_cru, a_kf, a_tn⟩ := hI
  have v1 := a_ways.1
  unfold wp_X11_whyWay
  refine wayAt_x a_ways h1 (fun u1 u2 => ?_) (fun u => ?_)
  · obtain ⟨⟨w7, w1⟩, ⟨e0, e1, e2, e3, e4⟩, wr⟩ := a_ways.2.1 x1.toNat (by omega)
    refine qx_way hI0 w1 (by omega) (fun f hf => qx_bar hI0 in1 (FcWay_in hI0 hf (by omega) ⟨by omega, by omega⟩) (fun r hr => ?_))
    intro τ eτ
    have t1 : τ 12 0 53 = σ 12 0 53 := by rw [eτ, rs_eq, up_ne (by decide), ra_ne (by decide)]
    have em : MEq σ τ := by rw [eτ]; exact MEq_q
    unfold wp_X12_isWay wp_X12_barringWay
    refine wi_m h1 in0 ⟨by omega, by omega⟩ (fun _ _ => ⟨Or.inr rfl, in1, fun c => absurd c (by decide), fun _ => ?_⟩) (fun a => absurd (by omega) a)
    rw [em.2 121 (by decide) (by decide), ← e1]
    refine ⟨by omega, by omega, ?_⟩
    have q := qm_way (c := σ 10 x1.toNat 1) (k := σ 10 x1.toNat 0) (Q := fun s => wp_X12_barring s 1 (fun r2 σ2 => r2 = r ∧ Inv (n + 1) σ2)) hI0 em (by omega) (fun g hg => qm_bar hI0 em (FcWay_in hI0 hg (by omega) ⟨by omega, by omega⟩) (Fc_eq hf hg) ⟨by decide, by decide⟩ hr ⟨rfl, by rw [eτ]; exact Inv_q hI0⟩)
    obtain ⟨sr, ly, -⟩ := em.facts hI0
    obtain ⟨-, -, -, ⟨e5, e6, e7, e8⟩, -, ww0, ww1, ww2⟩ := em.facts hI0
    refine sm_asks sr (by omega) (by omega) ly.1 (fun z => absurd z (by omega)) (fun _ g hg => ⟨by omega, by omega, fun s1 es => ?_⟩)
    rw [st_stae, ra_ne (show ¬ 120 = 119 by decide), em.2 120 (by decide) (by decide), ← e0] at es
    rw [es]
    rw [e5, e6, e7, e8, ww0, ww1, ww2] at hg
    have hg2 : FcWay σ (σ 10 x1.toNat 1) (σ 10 x1.toNat 0) (up g (Int.toNat 12) (σ 10 x1.toNat 0)) := by
      obtain ⟨⟨f0, f1, f2, f3⟩, ⟨f4, f5, f6, f7, f8⟩, f9, f10, f11, f12⟩ := hg
      refine ⟨?_, ?_, ?_, ?_, ?_, ?_, ?_, ?_, ?_, ?_, ?_, ?_, ?_⟩ <;> simp (decide := true) only [up, ite_true, ite_false, f0, f1, f2, f3, f4, f5, f6, f7, f8, f9, f10, f11]
    exact qm_bar hI0 em (FcWay_in hI0 hg2 (by omega) ⟨by omega, by omega⟩) (Fc_eq hf hg2) ⟨by decide, by decide⟩ hr ⟨rfl, by rw [eτ]; exact Inv_q hI0⟩
  · intro τ eτ
    have t1 : τ 12 0 53 = σ 12 0 53 := by rw [eτ, rs_eq, up_ne (by decide)]
    unfold wp_X12_isWay
    exact wi_m h1 in0 ⟨by omega, by omega⟩ (fun _ _ => absurd (by omega) u) (fun a => ⟨Or.inl rfl, in0, fun _ => ⟨rfl, by rw [eτ]; exact Inv_t hI0⟩, fun c => absurd rfl c⟩)
/-- what a way bears -/
def brv (kind climb snow water season laid dam today : Int) : Int := if kind = 0 then (if snow ≤ 6 then max 0 (30 - 3 * max 0 climb - snow) else 0) else if kind = 1 then (if laid = 0 then 0 else 60) else if kind = 2 then (if 0 ≤ climb then 0 else 8 * water) else if kind = 3 then (if snow < 3 then 0 else 40) else if 0 ≤ climb then 0 else (if season = 1 then 12 else 3) * water + (if dam = today then 40 else 0)
theorem brv_b {kind climb snow water season laid dam today : Int} (h1 : 0 ≤ snow ∧ snow ≤ 9) (h2 : 0 ≤ water ∧ water ≤ 9) : 0 ≤ brv kind climb snow water season laid dam today ∧ brv kind climb snow water season laid dam today ≤ 200 := by
  unfold brv
  split
  · split <;> omega
  · split
    · split <;> omega
    · split
      · split <;> omega
      · split
        · split <;> omega
        · split
          · omega
          · split <;> split <;> omega
theorem sx_bears {σ : St} {j : Nat} {Q : Int → St → Prop} (h : SkyX (σ 7 0) (σ 64 0) (σ 65 0)) (hh : ∀ i, 0 ≤ σ 28 0 i ∧ σ 28 0 i ≤ 40) (hw : σ 50 10 j ≠ 0) (hk : 0 ≤ σ 10 j 0 ∧ σ 10 j 0 ≤ 4) (hf : 0 ≤ σ 10 j 1 ∧ σ 10 j 1 ≤ 63) (ht : 0 ≤ σ 10 j 2 ∧ σ 10 j 2 ≤ 63) (hl : 0 ≤ σ 10 j 3 ∧ σ 10 j 3 ≤ 1) (hd : -1 ≤ σ 10 j 4 ∧ σ 10 j 4 ≤ 3999)
    (q : Q (brv (σ 10 j 0) (σ 28 0 (σ 10 j 2).toNat - σ 28 0 (σ 10 j 1).toNat) (wea σ 0) (wea σ 1) (seas (σ 7 0 3)) (σ 10 j 3) (σ 10 j 4) (σ 7 0 3)) σ) : wp_X10_bears σ j Q := by
  have w0 := wea_in h 0
  have w1 := wea_in h 1
  have kt := h.1
  have c1 := hh (σ 10 j 2).toNat
  have c2 := hh (σ 10 j 1).toNat
  have sn := seas_in (d := σ 7 0 3) (by omega)
  unfold wp_X10_bears
  refine ⟨hw, by omega, by omega, hw, by omega, by omega, fun v9 e9 => ?_⟩
  rw [← e9] at q
  refine sx_now h (by decide) (by decide) (sx_now h (by decide) (by decide) ?_)
  unfold brv at q
  refine ⟨hw, ⟨by omega, by omega⟩, fun c => ?_, fun c => ?_, fun c => ?_, fun c => ?_, fun c => ?_⟩
  · rw [if_pos c] at q
    refine ⟨sm_in w0, fun d => j_max in0 ⟨by omega, by omega⟩ (j_max in0 ⟨by omega, by omega⟩ ?_), fun d => ?_⟩
    · rw [if_pos d] at q
      exact q
    · rw [if_neg d] at q
      exact q
  · rw [if_neg (by omega), if_pos c] at q
    refine ⟨hw, ⟨by omega, by omega⟩, fun d => ?_, fun d => ?_⟩
    · rw [if_pos d] at q
      exact q
    · rw [if_neg d] at q
      exact q
  · rw [if_neg (by omega), if_neg (by omega), if_pos c] at q
    refine ⟨⟨by omega, by omega⟩, fun d => ?_, fun d => ?_⟩
    · rw [if_pos d] at q
      exact q
    · rw [if_neg d] at q
      exact q
  · rw [if_neg (by omega), if_neg (by omega), if_neg (by omega), if_pos c] at q
    refine ⟨sm_in w0, fun d => ?_, fun d => ?_⟩
    · rw [if_pos d] at q
      exact q
    · rw [if_neg d] at q
      exact q
  · rw [if_neg (by omega), if_neg (by omega), if_neg (by omega), if_neg (by omega)] at q
    refine ⟨⟨by omega, by omega⟩, fun d => ?_, fun d => ⟨hw, ?_⟩⟩
    · rw [if_pos d] at q
      exact q
    · rw [if_neg d] at q
      unfold wp_X10_streamBears wp_X10_streamBears_14
      refine sx_season (by omega) ⟨sn, fun s => ⟨hw, ⟨by omega, by omega⟩, ⟨by omega, by omega⟩, fun z => ?_, fun z => ?_⟩, fun s => ⟨hw, ⟨by omega, by omega⟩, ⟨by omega, by omega⟩, fun z => ?_, fun z => ?_⟩⟩
      · rw [if_neg s, if_neg z] at q
        exact q
      · rw [if_neg s, if_pos z] at q
        exact q
      · rw [if_pos s, if_neg z] at q
        exact q
      · rw [if_pos s, if_pos z] at q
        exact q
theorem sm_bears {σ : St} {x1 : Int} {Q : Int → St → Prop} (h : SkyR (σ 12 0 1) (σ 12 0 8) (σ 88 0)) (hw0 : 0 ≤ weaM σ 0 ∧ weaM σ 0 ≤ 9) (hw1 : 0 ≤ weaM σ 1 ∧ weaM σ 1 ≤ 9) (hh : ∀ i, 0 ≤ σ 83 0 i ∧ σ 83 0 i ≤ 40) (hx : 0 ≤ x1 ∧ x1 < 40) (hk : 0 ≤ σ 120 0 x1.toNat ∧ σ 120 0 x1.toNat ≤ 4) (hf : 0 ≤ σ 121 0 x1.toNat ∧ σ 121 0 x1.toNat ≤ 63) (ht : 0 ≤ σ 122 0 x1.toNat ∧ σ 122 0 x1.toNat ≤ 63) (hl : 0 ≤ σ 123 0 x1.toNat ∧ σ 123 0 x1.toNat ≤ 1) (hd : -1 ≤ σ 124 0 x1.toNat ∧ σ 124 0 x1.toNat ≤ 3999)
    (q : Q (brv (σ 120 0 x1.toNat) (σ 83 0 (σ 122 0 x1.toNat).toNat - σ 83 0 (σ 121 0 x1.toNat).toNat) (weaM σ 0) (weaM σ 1) (seas (σ 12 0 1)) (σ 123 0 x1.toNat) (σ 124 0 x1.toNat) (σ 12 0 1)) σ) : wp_X12_bears σ x1 Q := by
  have kt := h.1
  have c1 := hh (σ 122 0 x1.toNat).toNat
  have c2 := hh (σ 121 0 x1.toNat).toNat
  have sn := seas_in (d := σ 12 0 1) (by omega)
  unfold wp_X12_bears wp_X12_bears_93 wp_X12_bears_180
  refine ⟨by omega, by omega, by omega, by omega, by omega, by omega, by omega, by omega, fun v9 e9 => ?_⟩
  rw [← e9] at q
  refine sm_skyn h (by decide) (by decide) (sm_skyn h (by decide) (by decide) ?_)
  unfold brv at q
  refine ⟨by omega, by omega, ⟨by omega, by omega⟩, fun c => ?_, fun c => ?_, fun c => ?_, fun c => ?_, fun c => ?_⟩
  · rw [if_pos c] at q
    refine ⟨⟨by omega, by omega⟩, fun d v8 e8 => ⟨sm_in hw0, fun d2 => ?_, fun d2 => ⟨⟨by omega, by omega⟩, fun d3 => ?_, fun d3 => ?_⟩⟩, fun d v8 e8 => ⟨sm_in hw0, fun d2 => ?_, fun d2 => ⟨⟨by omega, by omega⟩, fun d3 => ?_, fun d3 => ?_⟩⟩⟩
    · rw [if_neg (by omega)] at q
      exact q
    · rw [if_pos (by omega), show max 0 (30 - 3 * max 0 v9 - weaM σ 0) = v8 by omega] at q
      exact q
    · rw [if_pos (by omega), show max 0 (30 - 3 * max 0 v9 - weaM σ 0) = 0 by omega] at q
      exact q
    · rw [if_neg (by omega)] at q
      exact q
    · rw [if_pos (by omega), show max 0 (30 - 3 * max 0 v9 - weaM σ 0) = v8 by omega] at q
      exact q
    · rw [if_pos (by omega), show max 0 (30 - 3 * max 0 v9 - weaM σ 0) = 0 by omega] at q
      exact q
  · rw [if_neg (by omega), if_pos c] at q
    refine ⟨by omega, by omega, ⟨by omega, by omega⟩, fun d => ?_, fun d => ?_⟩
    · rw [if_pos d] at q
      exact q
    · rw [if_neg d] at q
      exact q
  · rw [if_neg (by omega), if_neg (by omega), if_pos c] at q
    refine ⟨⟨by omega, by omega⟩, fun d => ?_, fun d => ?_⟩
    · rw [if_pos d] at q
      exact q
    · rw [if_neg d] at q
      exact q
  · rw [if_neg (by omega), if_neg (by omega), if_neg (by omega), if_pos c] at q
    refine ⟨sm_in hw0, fun d => ?_, fun d => ?_⟩
    · rw [if_pos d] at q
      exact q
    · rw [if_neg d] at q
      exact q
  · rw [if_neg (by omega), if_neg (by omega), if_neg (by omega), if_neg (by omega)] at q
    refine ⟨⟨by omega, by omega⟩, fun d => ?_, fun d => ?_⟩
    · rw [if_neg (by omega)] at q
      refine sm_season (by omega) ⟨sn, fun s => ⟨by omega, by omega, ⟨by omega, by omega⟩, ⟨by omega, by omega⟩, fun z => ?_, fun z => ?_⟩, fun s => ⟨by omega, by omega, ⟨by omega, by omega⟩, ⟨by omega, by omega⟩, fun z => ?_, fun z => ?_⟩⟩
      · rw [if_neg s, if_neg z] at q
        exact q
      · rw [if_neg s, if_pos z] at q
        exact q
      · rw [if_pos s, if_neg z] at q
        exact q
      · rw [if_pos s, if_pos z] at q
        exact q
    · rw [if_pos (by omega)] at q
      exact q
