/-! the class reads a text: what it takes, and its loop -/
def Bse (σ : St) (b : Nat → Int) (z tx : Nat) : Prop := σ 76 0 = b ∧ σ 9 0 1 = z ∧ z ≤ 300 ∧ (∀ i, 0 ≤ b i ∧ b i ≤ 255) ∧ σ 8 0 10 = tx ∧ tx < 20
theorem CR.tp {σ S : St} {b : Nat → Int} {z tx : Nat} {s : PS} (h : CR σ S tx s) (hB : Bse σ b z tx) : TpX S b z ∧ S 8 0 10 = tx := by
  obtain ⟨-, -, -, h4, h5, h6, -⟩ := h
  obtain ⟨b1, b2, b3, b4, b5, b6⟩ := hB
  exact ⟨⟨by rw [h4 76 (by decide) (by decide) (by decide), b1], by rw [h6 1 (by decide) (by decide) (by decide), b2], b3, b4⟩, by rw [h5 10 (by decide) (by decide), b5]⟩
theorem sx_refuse {σ S : St} {tx : Nat} {k : Int} {s : PS} {Q : Int → St → Prop} (h : CR σ S tx s) (q : ∀ S', CR σ S' tx (bad k s) → Q (bad k s).w S') : wp_X8_refuse S k Q := by
  intro s1 e1 s2 e2
  have r3 : s1 9 0 3 = s.fr := by rw [e1, rs_ne (by decide), h.1.2.1]
  rw [r3, e1] at e2
  rw [e2]
  exact q _ (CR_bad h)
theorem sx_sah {σ S : St} {b : Nat → Int} {z tx : Nat} {s : PS} {Q : Int → St → Prop} (hB : Bse σ b z tx) (h : CR σ S tx s) (hl : 1 ≤ s.len) (q : Q ((12 * tx + (s.len - 1) : Nat) : Int) S) : wp_X8_statementAtHand S Q := by
  have t := (h.tp hB).2
  have l := h.1.2.2.2.1
  have b6 := hB.2.2.2.2.2
  unfold wp_X8_statementAtHand
  rw [t, Int.toNat_natCast, l, show (tx : Int) * 12 + (s.len : Int) - 1 = ((12 * tx + (s.len - 1) : Nat) : Int) by omega]
  exact ⟨by omega, by omega, q⟩
theorem sx_tah {σ S : St} {b : Nat → Int} {z tx : Nat} {s : PS} {Q : Int → St → Prop} (hB : Bse σ b z tx) (h : CR σ S tx s) (hl : 1 ≤ s.len) (hl2 : s.len ≤ 12) (ht : 1 ≤ s.tm (s.len - 1) ∧ s.tm (s.len - 1) ≤ 5) (q : Q ((60 * tx + (tix s - 1) : Nat) : Int) S) : wp_X8_termAtHand S Q := by
  have b6 := hB.2.2.2.2.2
  have r := (h.2.1 (s.len - 1) (by omega)).2.2
  unfold wp_X8_termAtHand
  refine sx_sah hB h hl (sx_sah hB h hl ?_)
  rw [Int.toNat_natCast, r, show ((12 * tx + (s.len - 1) : Nat) : Int) * 5 + s.tm (s.len - 1) - 1 = ((60 * tx + (tix s - 1) : Nat) : Int) by unfold tix; omega]
  exact ⟨by omega, by omega, q⟩
theorem sx_takeO {σ S : St} {b : Nat → Int} {z tx : Nat} {s : PS} {o : Int} {Q : Int → St → Prop} (hB : Bse σ b z tx) (h : CR σ S tx s) (hl : 1 ≤ s.len) (hl2 : s.len ≤ 12) (ho : inR o) (q : ∀ S', CR σ S' tx (tkO o s) → Q (tkO o s).w S') : wp_X8_takeObject S o Q := by
  have b6 := hB.2.2.2.2.2
  unfold tkO at q
  unfold wp_X8_takeObject
  refine ⟨ho, fun z => ?_, fun z => ?_⟩
  · rw [if_neg z] at q
    refine sx_sah hB h hl ⟨by omega, by omega, fun s1 e1 => ?_⟩
    rw [Int.toNat_natCast] at e1
    rw [e1]
    exact q _ (CR_ob h (by omega))
  · rw [if_pos z] at q
    exact sx_refuse h q
theorem sx_takeW {σ S : St} {b : Nat → Int} {z tx : Nat} {s : PS} {o : Int} {Q : Int → St → Prop} (hB : Bse σ b z tx) (h : CR σ S tx s) (hl : 1 ≤ s.len) (hl2 : s.len ≤ 12) (ht : 1 ≤ s.tm (s.len - 1) ∧ s.tm (s.len - 1) ≤ 5) (ho : inR o) (q : ∀ S', CR σ S' tx (tkWd o s) → Q (tkWd o s).w S') : wp_X8_takeWord S o Q := by
  have b6 := hB.2.2.2.2.2
  have tx60 : tix s - 1 < 60 := by unfold tix; omega
  unfold tkWd at q
  unfold wp_X8_takeWord
  refine ⟨ho, fun z => ?_, fun z => ?_⟩
  · rw [if_neg z] at q
    refine sx_tah hB h hl hl2 ht ⟨by omega, by omega, fun s1 e1 => ?_⟩
    rw [Int.toNat_natCast] at e1
    rw [e1]
    exact q _ (CR_wd h tx60)
  · rw [if_pos z] at q
    exact sx_refuse h q
theorem take_x {σ S : St} {b : Nat → Int} {z tx : Nat} {s : PS} {Q : Int → St → Prop} (hB : Bse σ b z tx) (h : CR σ S tx s) (hW : WF b z s) (hw : ¬ s.w = 0) (q : ∀ S', CR σ S' tx (tke b s) → Q (tke b s).w S') : wp_X8_take S s.w Q := by
  obtain ⟨w1, ⟨f1, f2⟩, l1, l2, l3, k1, k2, k3, k4⟩ := hW
  obtain ⟨hT, h10⟩ := h.tp hB
  obtain ⟨⟨c1, c2, c3, c4, c5, c6⟩, -⟩ := id h
  have b6 := hB.2.2.2.2.2
  have ik : inR s.kd := ⟨by omega, by omega⟩
  have b3 := hT.2.2.1
  have nb : inR (nmI b s) := by
    unfold nmI
    by_cases c : s.kd = 2
    · rw [cif_p c]
      have := k4 c
      exact ⟨by omega, by omega⟩
    · rw [cif_n c]
      exact ⟨by decide, by decide⟩
  have sb : -1 ≤ sgI b s ∧ sgI b s ≤ 3 := by
    unfold sgI
    by_cases c : s.kd = 3
    · rw [cif_p c]
      unfold sgv
      repeat' split
      all_goals omega
    · rw [cif_n c]
      decide
  have hf3 : s.kd = 3 → s.fr < z := fun c => (k3 (by omega)).1
  have fb := fcI_b (P := isW b s.kd s.fr s.to) 13 0
  unfold tke at q
  unfold wp_X8_take
  refine ⟨⟨by omega, by omega⟩, fun e => ?_, fun e => ?_, fun e => ?_, fun e => ?_, fun e => ?_, fun e => ?_, fun e => ?_, fun e => ?_, fun e => ?_⟩
  · rw [if_pos e] at q
    unfold wp_X8_takeVerb
    have vb := vbI_b (P := isW b s.kd s.fr s.to)
    refine sx_wordIn (len := 19) hT (by decide) (by decide) c1 ik c2 c3 f1 f2 ?_
    rw [vbs_eq, h10, Int.toNat_natCast, c4]
    unfold tkV at q
    refine ⟨⟨by omega, by omega⟩, fun y => ?_, fun y => ?_⟩
    · rw [if_neg y] at q
      refine ⟨by omega, by omega, ⟨by omega, by omega⟩, fun u => ?_, fun u => ?_⟩
      · rw [if_neg (by omega)] at q
        refine ⟨by omega, by omega, by omega, by omega, fun s11 e11 => ?_⟩
        have h11 := CR_len (m := s.len + 1) (v := (s.len : Int) + 1) h (by omega)
        rw [← e11] at h11
        refine sx_sah hB h11 (show 1 ≤ s.len + 1 by omega) ?_
        rw [show (12 * tx + ((mkP s.w s.kd s.fr s.to (s.len + 1) s.fk s.fp s.vb s.ob s.tm s.ng s.wd s.rl s.vl).len - 1) : Nat) = 12 * tx + s.len from rfl]
        refine ⟨by omega, by omega, fun s16 e16 => ?_⟩
        rw [Int.toNat_natCast] at e16
        have h16 : CR σ s16 tx (mkP s.w s.kd s.fr s.to (s.len + 1) s.fk s.fp (up s.vb s.len (vbI (isW b s.kd s.fr s.to))) s.ob s.tm s.ng s.wd s.rl s.vl) := by
          rw [e16]
          exact CR_vb h11 (by omega)
        refine sx_sah hB h16 (show 1 ≤ s.len + 1 by omega) ?_
        rw [show (12 * tx + ((mkP s.w s.kd s.fr s.to (s.len + 1) s.fk s.fp (up s.vb s.len (vbI (isW b s.kd s.fr s.to))) s.ob s.tm s.ng s.wd s.rl s.vl).len - 1) : Nat) = 12 * tx + s.len from rfl]
        refine ⟨by omega, by omega, fun s21 e21 => ?_⟩
        rw [Int.toNat_natCast] at e21
        have h21 : CR σ s21 tx (mkP (if vbI (isW b s.kd s.fr s.to) = 0 then 2 else 3) s.kd s.fr s.to (s.len + 1) s.fk s.fp (up s.vb s.len (vbI (isW b s.kd s.fr s.to))) s.ob (up s.tm s.len 0) s.ng s.wd s.rl s.vl) := by
          rw [e21]
          exact CR_tm h16 (by omega)
        have q2 := q s21 h21
        refine ⟨⟨by omega, by omega⟩, fun v => ?_, fun v => ?_⟩
        · rw [show (mkP (if vbI (isW b s.kd s.fr s.to) = 0 then 2 else 3) s.kd s.fr s.to (s.len + 1) s.fk s.fp (up s.vb s.len (vbI (isW b s.kd s.fr s.to))) s.ob (up s.tm s.len 0) s.ng s.wd s.rl s.vl).w = (if vbI (isW b s.kd s.fr s.to) = 0 then 2 else 3) from rfl, if_neg v] at q2
          exact q2
        · rw [show (mkP (if vbI (isW b s.kd s.fr s.to) = 0 then 2 else 3) s.kd s.fr s.to (s.len + 1) s.fk s.fp (up s.vb s.len (vbI (isW b s.kd s.fr s.to))) s.ob (up s.tm s.len 0) s.ng s.wd s.rl s.vl).w = (if vbI (isW b s.kd s.fr s.to) = 0 then 2 else 3) from rfl, if_pos v] at q2
          exact q2
      · rw [if_pos (by omega)] at q
        exact sx_refuse h q
    · rw [if_pos y] at q
      exact sx_refuse h q
  · rw [if_neg (by omega), if_pos e] at q
    have db := dbI_b (P := isW b s.kd s.fr s.to)
    refine sx_wordIn (len := 14) hT (by decide) (by decide) c1 ik c2 c3 f1 f2 ?_
    rw [dbs_eq]
    exact sx_takeO hB h (l2 (by omega)).1 l1 ⟨by omega, by omega⟩ q
  · rw [if_neg (by omega), if_neg (by omega), if_pos e] at q
    exact sx_number hT c1 ik c2 c3 f1 f2 (sx_takeO hB h (l2 (by omega)).1 l1 nb q)
  · rw [if_neg (by omega), if_neg (by omega), if_neg (by omega), if_pos e] at q
    unfold tkIf at q
    refine sx_isWord hT (by decide) c1 ik c2 c3 f1 f2 (fun y => ⟨in1, fun c => absurd c (by decide), fun _ => ?_⟩) (fun y => ⟨in0, fun _ => ?_, fun c => absurd rfl c⟩)
    · rw [cif_p y] at q
      exact q S h
    · rw [cif_n y] at q
      exact sx_refuse h q
  · rw [if_neg (by omega), if_neg (by omega), if_neg (by omega), if_neg (by omega), if_pos e] at q
    obtain ⟨la, lb, lc⟩ := l2 (by omega)
    have r70 := (h.2.1 (s.len - 1) (by omega)).2.2
    have tx60 : s.tm (s.len - 1) < 5 → tix s < 60 := fun u => by unfold tix; omega
    unfold tkTm at q
    unfold wp_X8_takeTerm
    have t30 : ∀ (nt : Int), (nt = 0 ∨ nt = 1) → (nt = 1 ↔ isW b s.kd s.fr s.to 4) → ¬ (¬ isW b s.kd s.fr s.to 4 ∧ fcI (isW b s.kd s.fr s.to) 13 0 = -1) → wp_X8_takeTerm_30 Q S nt (fcI (isW b s.kd s.fr s.to) 13 0) := by
      intro nt h01 hnt hno
      rw [cif_n hno] at q
      unfold wp_X8_takeTerm_30
      refine sx_sah hB h la ?_
      rw [Int.toNat_natCast, r70]
      refine ⟨by omega, by omega, ⟨by omega, by omega⟩, fun u => ?_, fun u => ?_⟩
      · rw [if_neg (by omega)] at q
        refine sx_sah hB h la ?_
        rw [Int.toNat_natCast, r70]
        refine ⟨by omega, by omega, by omega, by omega, fun s12 e12 => ?_⟩
        have h12 := CR_tm (i := s.len - 1) (v := s.tm (s.len - 1) + 1) h (by omega)
        rw [← e12] at h12
        have etm : (mkP s.w s.kd s.fr s.to s.len s.fk s.fp s.vb s.ob (up s.tm (s.len - 1) (s.tm (s.len - 1) + 1)) s.ng s.wd s.rl s.vl).tm ((mkP s.w s.kd s.fr s.to s.len s.fk s.fp s.vb s.ob (up s.tm (s.len - 1) (s.tm (s.len - 1) + 1)) s.ng s.wd s.rl s.vl).len - 1) = s.tm (s.len - 1) + 1 := up_eq
        have eti : tix (mkP s.w s.kd s.fr s.to s.len s.fk s.fp s.vb s.ob (up s.tm (s.len - 1) (s.tm (s.len - 1) + 1)) s.ng s.wd s.rl s.vl) - 1 = tix s := by
          unfold tix
          rw [etm, show (mkP s.w s.kd s.fr s.to s.len s.fk s.fp s.vb s.ob (up s.tm (s.len - 1) (s.tm (s.len - 1) + 1)) s.ng s.wd s.rl s.vl).len = s.len from rfl]
          omega
        refine sx_tah hB h12 la l1 (by rw [etm]; omega) ?_
        rw [eti]
        have t6 := tx60 u
        refine ⟨by omega, by omega, h01, fun s18 e18 => ?_⟩
        rw [Int.toNat_natCast] at e18
        have h18 : CR σ s18 tx (mkP s.w s.kd s.fr s.to s.len s.fk s.fp s.vb s.ob (up s.tm (s.len - 1) (s.tm (s.len - 1) + 1)) (up s.ng (tix s) nt) s.wd s.rl s.vl) := by
          rw [e18]
          exact CR_ng h12 t6
        refine ⟨by rcases h01 with y | y <;> rw [y] <;> exact ⟨by decide, by decide⟩, fun y => ?_, fun y => ?_⟩
        · have nn : ¬ isW b s.kd s.fr s.to 4 := fun x => by have := hnt.2 x; omega
          rw [cif_n nn] at q
          subst y
          have e : (mkP s.w s.kd s.fr s.to s.len s.fk s.fp s.vb s.ob (up s.tm (s.len - 1) (s.tm (s.len - 1) + 1)) (up s.ng (tix s) 0) s.wd s.rl s.vl).tm ((mkP s.w s.kd s.fr s.to s.len s.fk s.fp s.vb s.ob (up s.tm (s.len - 1) (s.tm (s.len - 1) + 1)) (up s.ng (tix s) 0) s.wd s.rl s.vl).len - 1) = s.tm (s.len - 1) + 1 := up_eq
          exact sx_takeW hB h18 la l1 (by rw [e]; omega) ⟨by omega, by omega⟩ q
        · have e1 : nt = 1 := by omega
          subst e1
          rw [cif_p (hnt.1 rfl)] at q
          exact q s18 h18
      · rw [if_pos (by omega)] at q
        exact sx_refuse h q
    have wi : ∀ (nt : Int), (nt = 0 ∨ nt = 1) → (nt = 1 ↔ isW b s.kd s.fr s.to 4) → wp_X9_wordIn S 5 (fun r_29 σ_28 => inR nt ∧ (¬ nt = 0 → wp_X8_takeTerm_30 Q σ_28 nt r_29) ∧ (nt = 0 → inR r_29 ∧ (¬ r_29 = (-1) → wp_X8_takeTerm_30 Q σ_28 nt r_29) ∧ (r_29 = (-1) → wp_X8_refuse σ_28 1 (fun r_33 σ_32 => Q r_33 σ_32)))) := by
      intro nt h01 hnt
      refine sx_wordIn (len := 67) hT (by decide) (by decide) c1 ik c2 c3 f1 f2 ?_
      rw [wds_eq]
      refine ⟨by rcases h01 with y | y <;> rw [y] <;> exact ⟨by decide, by decide⟩, fun y => t30 nt h01 hnt (fun c => c.1 (hnt.1 (by omega))), fun y => ⟨⟨by omega, by omega⟩, fun u => t30 nt h01 hnt (fun c => u c.2), fun u => ?_⟩⟩
      have nn : ¬ isW b s.kd s.fr s.to 4 := fun x => by have := hnt.2 x; omega
      rw [cif_p ⟨nn, u⟩] at q
      exact sx_refuse h q
    exact sx_isWord hT (by decide) c1 ik c2 c3 f1 f2 (fun y => wi 1 (Or.inr rfl) ⟨fun _ => y, fun _ => rfl⟩) (fun y => wi 0 (Or.inl rfl) ⟨fun c => absurd c (by decide), fun c => absurd c y⟩)
  · rw [if_neg (by omega), if_neg (by omega), if_neg (by omega), if_neg (by omega), if_neg (by omega), if_pos e] at q
    obtain ⟨la, lb, lc⟩ := l2 (by omega)
    refine sx_wordIn (len := 67) hT (by decide) (by decide) c1 ik c2 c3 f1 f2 ?_
    rw [wds_eq]
    exact sx_takeW hB h la l1 ⟨l3 (by omega), lc⟩ ⟨by omega, by omega⟩ q
  · rw [if_neg (by omega), if_neg (by omega), if_neg (by omega), if_neg (by omega), if_neg (by omega), if_neg (by omega), if_pos e] at q
    obtain ⟨la, lb, lc⟩ := l2 (by omega)
    have tx60 : tix s - 1 < 60 := by unfold tix; omega
    unfold tkR at q
    unfold wp_X8_takeRelation
    refine sx_sign hT c1 ik c2 hf3 ?_
    refine wi_x (x := sgI b s) ⟨by omega, by omega⟩ in0 ⟨by decide, by decide⟩ (fun y1 y2 => ⟨in1, fun _ => ?_, fun c => absurd c (by decide)⟩) (fun y => ⟨in0, fun c => absurd rfl c, fun _ => ?_⟩)
    · rw [if_pos ⟨y1, y2⟩] at q
      refine sx_tah hB h la l1 ⟨l3 (by omega), lc⟩ ⟨by omega, by omega, fun s10 e10 => ?_⟩
      rw [Int.toNat_natCast] at e10
      rw [e10]
      exact q _ (CR_rl h tx60)
    · rw [if_neg y] at q
      exact sx_refuse h q
  · rw [if_neg (by omega), if_neg (by omega), if_neg (by omega), if_neg (by omega), if_neg (by omega), if_neg (by omega), if_neg (by omega), if_pos e] at q
    obtain ⟨la, lb, lc⟩ := l2 (by omega)
    have tx60 : tix s - 1 < 60 := by unfold tix; omega
    unfold tkVl at q
    unfold wp_X8_takeValue
    refine sx_number hT c1 ik c2 c3 f1 f2 ⟨nb, fun y => ?_, fun y => ?_⟩
    · have y' : ¬ nmI b s = -1 := y
      rw [if_neg y'] at q
      refine sx_tah hB h la l1 ⟨l3 (by omega), lc⟩ ⟨by omega, by omega, fun s8 e8 => ?_⟩
      rw [Int.toNat_natCast] at e8
      rw [e8]
      exact q _ (CR_vl h tx60)
    · have y' : nmI b s = -1 := y
      rw [if_pos y'] at q
      exact sx_refuse h q
  · rw [if_neg (by omega), if_neg (by omega), if_neg (by omega), if_neg (by omega), if_neg (by omega), if_neg (by omega), if_neg (by omega), if_neg (by omega)] at q
    unfold tkJ at q
    unfold wp_X8_takeJoint
    refine sx_isWord hT (by decide) c1 ik c2 c3 f1 f2 (fun y => ⟨in1, fun c => absurd c (by decide), fun _ => ?_⟩) (fun y => ⟨in0, fun _ => ?_, fun c => absurd rfl c⟩)
    · rw [cif_p y] at q
      exact q S h
    · rw [cif_n y] at q
      refine sx_sign hT c1 ik c2 hf3 ⟨⟨by have := sb; unfold sgI at this; omega, by have := sb; unfold sgI at this; omega⟩, fun u => ?_, fun u => ?_⟩
      · have u' : ¬ sgI b s = 3 := u
        rw [if_neg u'] at q
        exact sx_refuse h q
      · have u' : sgI b s = 3 := u
        rw [if_pos u'] at q
        exact q S h
