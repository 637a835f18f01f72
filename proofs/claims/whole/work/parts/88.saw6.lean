/-! saw -/
abbrev Dl : Type := (Nat → Int) × (Nat → Int) × Int × Int
def dlS (td : Int) (y : Int) (r : Dl) : Dl := if y < 0 then r else if r.1 y.toNat = 0 then (r.1, r.2.1, r.2.2.1 + 1, r.2.2.2 + 1) else (up r.1 y.toNat (r.1 y.toNat - 1), if r.1 y.toNat - 1 = 0 then up r.2.1 y.toNat td else r.2.1, r.2.2.1, r.2.2.2 + 1)
def dlv (f L0 D0 : Nat → Int) (td s0 : Int) : Nat → Dl
  | 0 => (L0, D0, s0, 0)
  | p + 1 => dlS td (f p) (dlv f L0 D0 td s0 p)
theorem dlv_congr {f f' L0 D0 : Nat → Int} {td s0 : Int} {w : Nat} (e : ∀ p, p < w → f' p = f p) : ∀ p, p ≤ w → dlv f' L0 D0 td s0 p = dlv f L0 D0 td s0 p := by
  intro p
  induction p with
  | zero => intro _; rfl
  | succ p ih =>
    intro hp
    show dlS _ _ _ = dlS _ _ _
    rw [ih (by omega), e p (by omega)]
def DlB (N : Int) (r : Dl) (p : Nat) : Prop := (∀ i : Nat, (i : Int) < N → 0 ≤ r.1 i ∧ r.1 i ≤ 99 ∧ -1 ≤ r.2.1 i ∧ r.2.1 i ≤ 3999) ∧ 0 ≤ r.2.2.2 ∧ r.2.2.2 ≤ p
theorem dlS_b {N td y : Int} {r : Dl} {p : Nat} (h : DlB N r p) (hy : y < N) (ht : 0 ≤ td ∧ td ≤ 3999) : DlB N (dlS td y r) (p + 1) := by
  obtain ⟨L, D, s, c⟩ := r
  obtain ⟨h1, h2, h3⟩ := h
  dsimp only at h1 h2 h3
  unfold dlS DlB
  by_cases a : y < 0
  · rw [if_pos a]
    exact ⟨h1, h2, by dsimp only; omega⟩
  · rw [if_neg a]
    by_cases b : L y.toNat = 0
    · rw [if_pos b]
      exact ⟨h1, by dsimp only; omega, by dsimp only; omega⟩
    · rw [if_neg b]
      refine ⟨fun i hi => ?_, by dsimp only; omega, by dsimp only; omega⟩
      dsimp only
      have z := h1 i hi
      by_cases e : i = y.toNat
      · rw [e] at z ⊢
        rw [up_eq]
        split
        · rw [up_eq]
          omega
        · omega
      · rw [up_ne e]
        split
        · rw [up_ne e]
          omega
        · omega
def stD (σ : St) (r : Dl) : St := sta (sta (st σ 6 0 7 r.2.2.1) 57 0 r.1) 60 0 r.2.1
theorem dx_loop {σ : St} {wd : Nat} {td s0 : Int} {f L0 D0 : Nat → Int} {Q : Int → St → Prop} (hN : 0 ≤ σ 6 0 6 ∧ σ 6 0 6 ≤ 30) (hwd : wd ≤ 34) (ht : 0 ≤ td ∧ td ≤ 3999) (hf : ∀ p, p < wd → σ 63 0 p = f p ∧ -2 ≤ f p ∧ f p < σ 6 0 6) (q : DlB (σ 6 0 6) (dlv f L0 D0 td s0 wd) wd → Q (dlv f L0 D0 td s0 wd).2.2.2 (stD σ (dlv f L0 D0 td s0 wd))) :
    ∀ (c p n : Nat), p + c = wd → c < n → DlB (σ 6 0 6) (dlv f L0 D0 td s0 p) p → wp_X6_deliver_5 Q n (stD σ (dlv f L0 D0 td s0 p)) wd td (dlv f L0 D0 td s0 p).2.2.2 p := by
  intro c
  induction c with
  | zero =>
    intro p n hp hn hb
    obtain ⟨n, rfl⟩ : ∃ n', n = n' + 1 := ⟨n - 1, by omega⟩
    have e : p = wd := by omega
    subst e
    unfold wp_X6_deliver_5
    exact ⟨⟨by omega, by omega⟩, ⟨by omega, by omega⟩, fun _ => q hb, fun z => absurd (by omega) z⟩
  | succ c ih =>
    intro p n hp hn hb
    obtain ⟨n, rfl⟩ : ∃ n', n = n' + 1 := ⟨n - 1, by omega⟩
    obtain ⟨fp, f1, f2⟩ := hf p (by omega)
    have nx := ih (p + 1) n (by omega) (by omega) (dlS_b hb f2 ht)
    have ns : dlv f L0 D0 td s0 (p + 1) = dlS td (f p) (dlv f L0 D0 td s0 p) := rfl
    rw [ns] at nx
    obtain ⟨r, er⟩ : ∃ r, r = dlv f L0 D0 td s0 p := ⟨_, rfl⟩
    rw [← er] at hb nx ⊢
    obtain ⟨L, D, s, k⟩ := r
    obtain ⟨S, eS⟩ : ∃ S : St, S = stD σ (L, D, s, k) := ⟨_, rfl⟩
    rw [← eS]
    unfold stD at eS
    dsimp only at eS ⊢
    have r63 : S 63 = σ 63 := by rw [eS, ra_ne (by decide), ra_ne (by decide), rs_ne (by decide)]
    have r6 : S 6 0 6 = σ 6 0 6 := by rw [eS, ra_ne (by decide), ra_ne (by decide), rs_eq, up_ne (by decide)]
    have r7 : S 6 0 7 = s := by rw [eS, ra_ne (by decide), ra_ne (by decide), rs_eq, up_eq]
    have r57 : S 57 0 = L := by rw [eS, ra_ne (by decide), ra_eq]
    unfold dlS stD at nx
    unfold wp_X6_deliver_5 wp_X6_deliver_53 wp_X6_handOver
    rw [Int.toNat_natCast, r63, r6, fp, show ((p : Int) + 1) = ((p + 1 : Nat) : Int) by omega]
    refine ⟨⟨by omega, by omega⟩, ⟨by omega, by omega⟩, fun z => absurd z (by omega), fun _ => ⟨⟨by omega, by omega⟩, fun z => absurd z (by omega), fun _ => ⟨by omega, by omega, ?_⟩⟩⟩
    refine wi_x ⟨by omega, by omega⟩ in0 ⟨by omega, by omega⟩ (fun a b => ⟨in1, fun z => absurd z (by decide), fun _ => ⟨by omega, by omega, ?_⟩⟩) (fun a => ⟨in0, fun _ => ?_, fun c => absurd rfl c⟩)
    · rw [r63, fp, r57, r7]
      rw [if_neg (show ¬ f p < 0 by omega)] at nx
      have lb := hb.1 (f p).toNat (by omega)
      dsimp only at lb
      refine ⟨by omega, by omega, ⟨by omega, by omega⟩, fun y => ⟨by omega, by omega, by omega, by omega, fun s1 e1 => ?_⟩, fun y s1 e1 => ?_⟩
      · rw [if_neg (show ¬ (L, D, s, k).1 (f p).toNat = 0 from y)] at nx
        dsimp only at nx
        rw [eS, st_stac (by decide), st_stae] at e1
        have r57b : s1 57 0 (f p).toNat = L (f p).toNat - 1 := by rw [e1, ra_ne (by decide), ra_eq, up_eq]
        rw [r57b]
        refine ⟨by omega, by omega, ⟨by omega, by omega⟩, fun w => ?_, fun w => ⟨by omega, by omega, fun s2 e2 => ?_⟩⟩
        · rw [if_neg w] at nx
          rw [e1]
          exact nx
        · rw [if_pos w] at nx
          rw [e2, e1, st_stae]
          exact nx
      · rw [if_pos (show (L, D, s, k).1 (f p).toNat = 0 from y)] at nx
        rw [e1, eS, st_stac (by decide), st_stac (by decide), st_st]
        exact nx
    · rw [if_pos (show f p < 0 by omega)] at nx
      rw [eS]
      exact nx
def stE (σ : St) (r : Dl) : St := sta (sta (st σ 12 0 78 r.2.2.1) 135 0 r.1) 138 0 r.2.1
theorem dm_loop {σ : St} {l wd : Nat} {N td s0 : Int} {f L0 D0 : Nat → Int} {K : St → Int → Int → Prop} {Q : Int → St → Prop} (hl : l < 300) (hw : σ 98 0 l = wd) (hN : 0 ≤ N ∧ N ≤ 30) (hwd : wd ≤ 34) (ht : 0 ≤ td ∧ td ≤ 3999) (et : σ 12 0 1 = td) (hf : ∀ p, p < wd → σ 140 0 p = f p ∧ -2 ≤ f p ∧ f p < N) (q : K (stE σ (dlv f L0 D0 td s0 wd)) l (dlv f L0 D0 td s0 wd).2.2.2) :
    ∀ (c p n : Nat), p + c = wd → c < n → DlB N (dlv f L0 D0 td s0 p) p → wp_X12_saw_25 K Q n (stE σ (dlv f L0 D0 td s0 p)) l (dlv f L0 D0 td s0 p).2.2.2 p := by
  intro c
  induction c with
  | zero =>
    intro p n hp hn hb
    obtain ⟨n, rfl⟩ : ∃ n', n = n' + 1 := ⟨n - 1, by omega⟩
    have e : p = wd := by omega
    subst e
    have r98 : stE σ (dlv f L0 D0 td s0 p) 98 = σ 98 := by unfold stE; rw [ra_ne (by decide), ra_ne (by decide), rs_ne (by decide)]
    unfold wp_X12_saw_25
    rw [r98, Int.toNat_natCast, hw]
    exact ⟨by omega, by omega, ⟨by omega, by omega⟩, ⟨by omega, by omega⟩, fun _ => q, fun z => absurd (by omega) z⟩
  | succ c ih =>
    intro p n hp hn hb
    obtain ⟨n, rfl⟩ : ∃ n', n = n' + 1 := ⟨n - 1, by omega⟩
    obtain ⟨fp, f1, f2⟩ := hf p (by omega)
    have nx := ih (p + 1) n (by omega) (by omega) (dlS_b hb f2 ht)
    have ns : dlv f L0 D0 td s0 (p + 1) = dlS td (f p) (dlv f L0 D0 td s0 p) := rfl
    rw [ns] at nx
    obtain ⟨r, er⟩ : ∃ r, r = dlv f L0 D0 td s0 p := ⟨_, rfl⟩
    rw [← er] at hb nx ⊢
    obtain ⟨L, D, s, k⟩ := r
    obtain ⟨S, eS⟩ : ∃ S : St, S = stE σ (L, D, s, k) := ⟨_, rfl⟩
    rw [← eS]
    unfold stE at eS
    dsimp only at eS ⊢
    have r140 : S 140 = σ 140 := by rw [eS, ra_ne (by decide), ra_ne (by decide), rs_ne (by decide)]
    have r98 : S 98 = σ 98 := by rw [eS, ra_ne (by decide), ra_ne (by decide), rs_ne (by decide)]
    have r1 : S 12 0 1 = td := by rw [eS, ra_ne (by decide), ra_ne (by decide), rs_eq, up_ne (by decide), et]
    have r7 : S 12 0 78 = s := by rw [eS, ra_ne (by decide), ra_ne (by decide), rs_eq, up_eq]
    have r57 : S 135 0 = L := by rw [eS, ra_ne (by decide), ra_eq]
    unfold dlS stE at nx
    unfold wp_X12_saw_25 wp_X12_saw_109
    rw [Int.toNat_natCast, Int.toNat_natCast, r140, r98, hw, fp, show ((p : Int) + 1) = ((p + 1 : Nat) : Int) by omega]
    refine ⟨by omega, by omega, ⟨by omega, by omega⟩, ⟨by omega, by omega⟩, fun z => absurd z (by omega), fun _ => ⟨by omega, by omega, fun v ev => ?_⟩⟩
    rw [ev, r57, r7]
    refine ⟨⟨by omega, by omega⟩, fun a => ?_, fun a => ?_⟩
    · rw [if_neg (show ¬ f p < 0 by omega)] at nx
      have lb := hb.1 (f p).toNat (by omega)
      dsimp only at lb
      refine ⟨by omega, by omega, ⟨by omega, by omega⟩, fun y => ⟨by omega, by omega, by omega, by omega, fun s1 e1 => ?_⟩, fun y s1 e1 => ?_⟩
      · rw [if_neg (show ¬ (L, D, s, k).1 (f p).toNat = 0 from y)] at nx
        dsimp only at nx
        have r1b : s1 12 0 1 = td := by rw [e1, rs_ne (by decide), r1]
        rw [eS, st_stac (by decide), st_stae] at e1
        have r57b : s1 135 0 (f p).toNat = L (f p).toNat - 1 := by rw [e1, ra_ne (by decide), ra_eq, up_eq]
        rw [r57b, r1b]
        refine ⟨by omega, by omega, ⟨by omega, by omega⟩, fun w => ?_, fun w => ⟨by omega, by omega, fun s2 e2 => ?_⟩⟩
        · rw [if_neg w] at nx
          rw [e1]
          exact nx
        · rw [if_pos w] at nx
          rw [e2, e1, st_stae]
          exact nx
      · rw [if_pos (show (L, D, s, k).1 (f p).toNat = 0 from y)] at nx
        rw [e1, eS, st_stac (by decide), st_stac (by decide), st_st]
        exact nx
    · rw [if_pos (show f p < 0 by omega)] at nx
      rw [eS]
      exact nx
