/-! the logs of a stem: one after the other, on both sides -/
def nxS (V : St) (l ce : Nat) (so un wi br td mill : Int) : St := newX V l ce so un wi br (ftv ((l : Int) * 7 + ce) wi) td (S0 (reg5 ce so un wi td) % 65537) (S1 (reg5 ce so un wi td) % 65537) (td + Int.tdiv (apv ce mill) 4)
def nmS (V : St) (l ce : Nat) (so un wi br td mill : Int) : St := newM V l ce so un wi br (ftv ((l : Int) * 7 + ce) wi) td (S0 (reg5 ce so un wi td) % 65537) (S1 (reg5 ce so un wi td) % 65537) (td + Int.tdiv (apv ce mill) 4)
def nmF (V : St) (l ce : Nat) (so br td mill : Int) (f wi : Nat → Int) : Nat → St
  | 0 => V
  | i + 1 => nmS (nmF V l ce so br td mill f wi i) (l + i) ce so (f i) (wi i) br td mill
/-- the classes' rows stand as they stood, but for the logs -/
def FrL (σ S : St) (lc : Int) : Prop := (∀ k, ¬ k = 4 → ¬ k = 11 → ¬ k = 31 → ¬ k = 35 → ¬ k = 36 → ¬ k = 37 → ¬ k = 38 → ¬ k = 50 → ¬ k = 77 → S k = σ k) ∧ (∀ i, ¬ i = 4 → S 11 0 i = σ 11 0 i) ∧ S 11 0 4 = lc ∧ ∀ j, ¬ j = 4 → ¬ j = 5 → S 50 j = σ 50 j
def wiF (tp : Nat → Int) (so sz : Int) (f : Nat → Int) : Nat → Int := fun i => wdv tp so sz (sumv f (i + 1))
def psum (wi f : Nat → Int) (ru : Int) : Nat → Int := sumv (fun i => scv (wi i) (f i) ru)
theorem apv_kd {ce : Nat} {mill td : Int} (hce : ce ≤ 63) (hm : 0 ≤ mill ∧ mill ≤ 63) (ht : 0 ≤ td ∧ td ≤ 3999) : 0 ≤ td + Int.tdiv (apv ce mill) 4 ∧ td + Int.tdiv (apv ce mill) 4 ≤ 4010 := by
  have ab := apv_b (a := (ce : Int)) (b := mill) (by omega) (by omega) hm.1 hm.2
  rw [Int.tdiv_eq_ediv_of_nonneg ab.1]
  omega
theorem RelL_S {S V : St} {l ce : Nat} {so un wi br td mill : Int} (h : RelL S V) (hl : S 11 0 4 = l) (h3 : l < 300) (hce : ce ≤ 63) (hso : 0 ≤ so ∧ so ≤ 3) (hun : 2 ≤ un ∧ un ≤ 6) (hw : 1 ≤ wi ∧ wi ≤ 32) (hbr : 0 ≤ br ∧ br ≤ 9) (htd : 0 ≤ td ∧ td ≤ 3999) (hm : 0 ≤ mill ∧ mill ≤ 63) : RelL (nxS S l ce so un wi br td mill) (nmS V l ce so un wi br td mill) :=
  RelL_new h hl h3 rfl rfl hce hso hun hw hbr (ftv_b (by omega) hw.1) htd ⟨Int.emod_nonneg _ (by decide), Int.emod_lt_of_pos _ (by decide)⟩ ⟨Int.emod_nonneg _ (by decide), Int.emod_lt_of_pos _ (by decide)⟩ (apv_kd hce hm htd)
theorem FrL_S {σ S : St} {l ce : Nat} {so un wi br td mill lc : Int} (h : FrL σ S lc) : FrL σ (nxS S l ce so un wi br td mill) ((l : Int) + 1) := by
  obtain ⟨h1, h2, -, h4⟩ := h
  unfold nxS
  refine ⟨fun k z1 z2 z3 z4 z5 z6 z7 z8 z9 => ?_, fun i hi => ?_, ?_, fun j z1 z2 => ?_⟩
  · rw [newX_k z1 z2 z3 z4 z5 z6 z7 z8 z9]
    exact h1 k z1 z2 z3 z4 z5 z6 z7 z8 z9
  · rw [newX_11.1, up_ne hi]
    exact h2 i hi
  · rw [newX_11.1, up_eq]
  · rw [newX_50.2.2 j z1 z2]
    exact h4 j z1 z2
theorem mk_loop {σ V0 : St} {l0 ce m : Nat} {so sz br td mill ru : Int} {f : Nat → Int} {Q : Int → St → Prop} (hm5 : m ≤ 5) (hl0 : l0 + m ≤ 300) (hce : ce ≤ 63) (hso : 0 ≤ so ∧ so ≤ 3) (hsz : 0 ≤ sz ∧ sz ≤ 3) (hbr : 0 ≤ br ∧ br ≤ 9) (ht : σ 7 0 3 = td) (htd : 0 ≤ td ∧ td ≤ 3999) (hmi : σ 3 0 6 = mill) (hm : 0 ≤ mill ∧ mill ≤ 63) (htp : ∀ i, i < 4 → 1 ≤ σ 33 0 i ∧ σ 33 0 i ≤ 3) (hru : σ 11 0 12 = ru) (hru2 : inR ru) (e4 : σ 0 0 4 = m) (e23 : σ 23 0 = f) (hf : ∀ i, i < m → 2 ≤ f i ∧ f i ≤ 6)
    (q : ∀ S, RelL S (nmF V0 l0 ce so br td mill f (wiF (σ 33 0) so sz f) m) → FrL σ S (l0 + m) → Q (psum (wiF (σ 33 0) so sz f) f ru m) S) :
    ∀ (k i n : Nat) (S : St), i + k = m → k < n → RelL S (nmF V0 l0 ce so br td mill f (wiF (σ 33 0) so sz f) i) → FrL σ S (l0 + i) → wp_X11_makeLogs_9 Q n S i ce so sz br (psum (wiF (σ 33 0) so sz f) f ru i) (sumv f i) i := by
  have sb := sum_fb hf
  intro k
  induction k with
  | zero =>
    intro i n S hk hn hR hF
    obtain ⟨n, rfl⟩ : ∃ n', n = n' + 1 := ⟨n - 1, by omega⟩
    have e : i = m := by omega
    subst e
    have es : S 0 0 4 = i := by rw [hF.1 0 (by decide) (by decide) (by decide) (by decide) (by decide) (by decide) (by decide) (by decide) (by decide), e4]
    unfold wp_X11_makeLogs_9
    rw [es]
    exact ⟨⟨by omega, by omega⟩, ⟨by omega, by omega⟩, fun _ => ⟨by omega, q S hR hF⟩, fun z => absurd (Int.le_refl _) z⟩
  | succ k ih =>
    intro i n S hk hn hR hF
    obtain ⟨n, rfl⟩ : ∃ n', n = n' + 1 := ⟨n - 1, by omega⟩
    have fr := fun (k : Nat) (h : k < 4 ∨ (4 < k ∧ k < 11) ∨ (11 < k ∧ k < 31) ∨ (31 < k ∧ k < 35)) => hF.1 k (by omega) (by omega) (by omega) (by omega) (by omega) (by omega) (by omega) (by omega) (by omega)
    have es : S 0 0 4 = m := by rw [fr 0 (by omega), e4]
    have s23 : S 23 0 = f := by rw [fr 23 (by omega), e23]
    have s33 : S 33 = σ 33 := fr 33 (by omega)
    have s7 : S 7 0 3 = td := by rw [fr 7 (by omega), ht]
    have s3 : S 3 0 6 = mill := by rw [fr 3 (by omega), hmi]
    have s11 : S 11 0 4 = ((l0 + i : Nat) : Int) := by rw [hF.2.2.1]; omega
    have s12 : S 11 0 12 = ru := by rw [hF.2.1 12 (by decide), hru]
    have lv := hR.2.2.1.2.2.2 (l0 + i) (by omega)
    have b1 := sb (i + 1) (by omega)
    have fi := hf i (by omega)
    have wb : 1 ≤ wdv (σ 33 0) so sz (sumv f (i + 1)) ∧ wdv (σ 33 0) so sz (sumv f (i + 1)) ≤ 32 := wdv_b hso hsz (htp so.toNat (by omega)) (by omega)
    have nx := ih (i + 1) n (nxS S (l0 + i) ce so (f i) (wiF (σ 33 0) so sz f i) br td mill) (by omega) (by omega) (RelL_S hR s11 (by omega) hce hso fi wb hbr htd hm) (by
      have e : ((l0 : Int) + ((i + 1 : Nat) : Int)) = ((l0 + i : Nat) : Int) + 1 := by omega
      rw [e]
      exact FrL_S hF)
    unfold wp_X11_makeLogs_9
    rw [es, s23, Int.toNat_natCast]
    refine ⟨⟨by omega, by omega⟩, ⟨by omega, by omega⟩, fun z => absurd z (by omega), fun _ => ⟨by omega, by omega, fun v5 e5 v6 e6 => ⟨by omega, ?_⟩⟩⟩
    have e6b : v6 = sumv f (i + 1) := by rw [e6, e5]; rfl
    subst e5
    subst e6b
    refine sx_oneLog (l := l0 + i) (wi := wdv (σ 33 0) so sz (sumv f (i + 1))) (td := td) s11 (by omega) lv.1 lv.2 hce hso hsz fi (by omega) (by rw [s33]; exact htp) (by rw [s3]; exact hm) s7 htd (by rw [s33]) wb (by rw [s12]; exact hru2) ?_
    rw [s12, s3]
    intro v ev
    subst ev
    rw [show ((i : Int) + 1) = ((i + 1 : Nat) : Int) by omega]
    exact nx
/-! the reference's -/
def REq (T V : St) : Prop := (∀ k, 95 ≤ k → k ≤ 108 → T k 0 = V k 0) ∧ T 12 0 17 = V 12 0 17
theorem REq_S {T V : St} {l ce : Nat} {so un wi br td mill : Int} (h : REq T V) : REq (nmS T l ce so un wi br td mill) (nmS V l ce so un wi br td mill) := by
  obtain ⟨h1, h2⟩ := h
  obtain ⟨w95, w96, w97, w98, w99, w100, w101, w103, w102, w104, w105, w107, w108, w12⟩ := newM_r (V := T) (l := l) (ce := ce) (so := so) (un := un) (wi := wi) (br := br) (ft := ftv ((l : Int) * 7 + ce) wi) (td := td) (s0 := S0 (reg5 ce so un wi td) % 65537) (s1 := S1 (reg5 ce so un wi td) % 65537) (kd := td + Int.tdiv (apv ce mill) 4) rfl
  have w106 := newM_106 (V := T) (l := l) (ce := ce) (so := so) (un := un) (wi := wi) (br := br) (ft := ftv ((l : Int) * 7 + ce) wi) (td := td) (s0 := S0 (reg5 ce so un wi td) % 65537) (s1 := S1 (reg5 ce so un wi td) % 65537) (kd := td + Int.tdiv (apv ce mill) 4) rfl
  obtain ⟨u95, u96, u97, u98, u99, u100, u101, u103, u102, u104, u105, u107, u108, u12⟩ := newM_r (V := V) (l := l) (ce := ce) (so := so) (un := un) (wi := wi) (br := br) (ft := ftv ((l : Int) * 7 + ce) wi) (td := td) (s0 := S0 (reg5 ce so un wi td) % 65537) (s1 := S1 (reg5 ce so un wi td) % 65537) (kd := td + Int.tdiv (apv ce mill) 4) rfl
  have u106 := newM_106 (V := V) (l := l) (ce := ce) (so := so) (un := un) (wi := wi) (br := br) (ft := ftv ((l : Int) * 7 + ce) wi) (td := td) (s0 := S0 (reg5 ce so un wi td) % 65537) (s1 := S1 (reg5 ce so un wi td) % 65537) (kd := td + Int.tdiv (apv ce mill) 4) rfl
  unfold nmS
  refine ⟨fun k z1 z2 => ?_, ?_⟩
  · rcases (show k = 95 ∨ k = 96 ∨ k = 97 ∨ k = 98 ∨ k = 99 ∨ k = 100 ∨ k = 101 ∨ k = 102 ∨ k = 103 ∨ k = 104 ∨ k = 105 ∨ k = 106 ∨ k = 107 ∨ k = 108 by omega) with rfl | rfl | rfl | rfl | rfl | rfl | rfl | rfl | rfl | rfl | rfl | rfl | rfl | rfl
    · rw [w95, u95, h1 95 (by decide) (by decide)]
    · rw [w96, u96, h1 96 (by decide) (by decide)]
    · rw [w97, u97, h1 97 (by decide) (by decide)]
    · rw [w98, u98, h1 98 (by decide) (by decide)]
    · rw [w99, u99, h1 99 (by decide) (by decide)]
    · rw [w100, u100, h1 100 (by decide) (by decide)]
    · rw [w101, u101, h1 101 (by decide) (by decide)]
    · rw [w102, u102, h1 102 (by decide) (by decide)]
    · rw [w103, u103, h1 103 (by decide) (by decide)]
    · rw [w104, u104, h1 104 (by decide) (by decide)]
    · rw [w105, u105, h1 105 (by decide) (by decide)]
    · rw [w106, u106, h1 106 (by decide) (by decide)]
    · rw [w107, u107, h1 107 (by decide) (by decide)]
    · rw [w108, u108, h1 108 (by decide) (by decide)]
  · rw [w12, u12, up_eq, up_eq]
def FrM (σ S : St) (lc : Int) : Prop := (∀ k, (k < 95 ∨ 108 < k) → ¬ k = 12 → S k = σ k) ∧ (∀ i, ¬ i = 17 → S 12 0 i = σ 12 0 i) ∧ S 12 0 17 = lc
theorem FrM_S {σ S : St} {l ce : Nat} {so un wi br td mill lc : Int} (h : FrM σ S lc) : FrM σ (nmS S l ce so un wi br td mill) ((l : Int) + 1) := by
  obtain ⟨h1, h2, -⟩ := h
  have w := (newM_r (V := S) (l := l) (ce := ce) (so := so) (un := un) (wi := wi) (br := br) (ft := ftv ((l : Int) * 7 + ce) wi) (td := td) (s0 := S0 (reg5 ce so un wi td) % 65537) (s1 := S1 (reg5 ce so un wi td) % 65537) (kd := td + Int.tdiv (apv ce mill) 4) rfl).2.2.2.2.2.2.2.2.2.2.2.2.2
  unfold nmS
  refine ⟨fun k z1 z2 => ?_, fun i hi => ?_, ?_⟩
  · rw [newM_k z1 z2]
    exact h1 k z1 z2
  · rw [w, up_ne hi]
    exact h2 i hi
  · rw [w, up_eq]
theorem fm_loop {σ V0 : St} {l0 ce m j : Nat} {so sz br td mill ru x6 : Int} {f : Nat → Int} {K : St → Int → Int → Int → Prop} {Q : Int → St → Prop} (hj : j < 20) (hm5 : m ≤ 5) (hl0 : l0 + m ≤ 300) (hce : ce ≤ 63) (hso : 0 ≤ so ∧ so ≤ 3) (hsz : 0 ≤ sz ∧ sz ≤ 3) (hbr : σ 125 0 j = br) (ht : σ 12 0 1 = td) (htd : 0 ≤ td ∧ td ≤ 3999) (hmi : σ 12 0 7 = mill) (hm : 0 ≤ mill ∧ mill ≤ 63) (htp : ∀ i, i < 4 → 1 ≤ σ 87 0 i ∧ σ 87 0 i ≤ 3) (hru : σ 12 0 66 = ru) (hru2 : inR ru) (e4 : σ 12 0 15 = m) (e23 : ∀ i, i < m → σ 93 0 i = f i) (hf : ∀ i, i < m → 2 ≤ f i ∧ f i ≤ 6)
    (q : ∀ S, REq S (nmF V0 l0 ce so br td mill f (wiF (σ 87 0) so sz f) m) → FrM σ S (l0 + m) → K S j x6 (psum (wiF (σ 87 0) so sz f) f ru m)) :
    ∀ (k i n : Nat) (S : St), i + k = m → k < n → REq S (nmF V0 l0 ce so br td mill f (wiF (σ 87 0) so sz f) i) → FrM σ S (l0 + i) → wp_X12_fall_170 K Q n S j ce so sz x6 (sumv f i) (psum (wiF (σ 87 0) so sz f) f ru i) i := by
  have sb := sum_fb hf
  intro k
  induction k with
  | zero =>
    intro i n S hk hn hR hF
    obtain ⟨n, rfl⟩ : ∃ n', n = n' + 1 := ⟨n - 1, by omega⟩
    have e : i = m := by omega
    subst e
    have es : S 12 0 15 = i := by rw [hF.2.1 15 (by decide), e4]
    unfold wp_X12_fall_170
    rw [es]
    exact ⟨⟨by omega, by omega⟩, ⟨by omega, by omega⟩, fun _ => q S hR hF, fun z => absurd (Int.le_refl _) z⟩
  | succ k ih =>
    intro i n S hk hn hR hF
    obtain ⟨n, rfl⟩ : ∃ n', n = n' + 1 := ⟨n - 1, by omega⟩
    have es : S 12 0 15 = m := by rw [hF.2.1 15 (by decide), e4]
    have s93 : S 93 0 i = f i := by rw [hF.1 93 (by decide) (by decide), e23 i (by omega)]
    have s87 : S 87 = σ 87 := hF.1 87 (by decide) (by decide)
    have s125 : S 125 0 j = br := by rw [hF.1 125 (by decide) (by decide), hbr]
    have s1 : S 12 0 1 = td := by rw [hF.2.1 1 (by decide), ht]
    have s7 : S 12 0 7 = mill := by rw [hF.2.1 7 (by decide), hmi]
    have s17 : S 12 0 17 = ((l0 + i : Nat) : Int) := by rw [hF.2.2]; omega
    have s66 : S 12 0 66 = ru := by rw [hF.2.1 66 (by decide), hru]
    have b1 := sb (i + 1) (by omega)
    have fi := hf i (by omega)
    have wb : 1 ≤ wdv (σ 87 0) so sz (sumv f (i + 1)) ∧ wdv (σ 87 0) so sz (sumv f (i + 1)) ≤ 32 := wdv_b hso hsz (htp so.toNat (by omega)) (by omega)
    have nx := ih (i + 1) n (nmS S (l0 + i) ce so (f i) (wiF (σ 87 0) so sz f i) br td mill) (by omega) (by omega) (REq_S hR) (by
      have e : ((l0 : Int) + ((i + 1 : Nat) : Int)) = ((l0 + i : Nat) : Int) + 1 := by omega
      rw [e]
      exact FrM_S hF)
    unfold wp_X12_fall_170
    rw [es, Int.toNat_natCast, s93]
    refine ⟨⟨by omega, by omega⟩, ⟨by omega, by omega⟩, fun z => absurd z (by omega), fun _ => ⟨by omega, by omega, fun v6 e6 => ⟨by omega, by omega, ?_⟩⟩⟩
    have e6b : v6 = sumv f (i + 1) := by rw [e6]; rfl
    subst e6b
    refine sm_wideAt hso hsz (by rw [s87]; exact htp) (by omega) ⟨by omega, by omega, ?_⟩
    rw [s87, Int.toNat_natCast, s125]
    refine sm_falls (l := l0 + i) (td := td) s17 (by omega) (by omega) hso fi wb s1 htd (by rw [s7]; exact hm) ?_
    rw [s7]
    obtain ⟨T, eT⟩ : ∃ T : St, T = nmS S (l0 + i) ce so (f i) (wiF (σ 87 0) so sz f i) br td mill := ⟨_, rfl⟩
    have eT2 : newM S (l0 + i) ce so (f i) (wdv (σ 87 0) so sz (sumv f (i + 1))) br (ftv (((l0 + i : Nat) : Int) * 7 + ce) (wdv (σ 87 0) so sz (sumv f (i + 1)))) td (S0 (reg5 ce so (f i) (wdv (σ 87 0) so sz (sumv f (i + 1))) td) % 65537) (S1 (reg5 ce so (f i) (wdv (σ 87 0) so sz (sumv f (i + 1))) td) % 65537) (td + Int.tdiv (apv ce mill) 4) = T := by
      rw [eT]
      rfl
    rw [eT2]
    rw [← eT] at nx
    have tr := newM_r eT2.symm
    have t17 : T 12 0 17 = ((l0 + i : Nat) : Int) + 1 := by rw [tr.2.2.2.2.2.2.2.2.2.2.2.2.2, up_eq]
    have t66 : T 12 0 66 = ru := by rw [tr.2.2.2.2.2.2.2.2.2.2.2.2.2, up_ne (by decide), s66]
    have t98 : T 98 0 (l0 + i) = wdv (σ 87 0) so sz (sumv f (i + 1)) := by rw [tr.2.2.2.1, up_eq]
    have t97 : T 97 0 (l0 + i) = f i := by rw [tr.2.2.1, up_eq]
    rw [t17, t66, show (((l0 + i : Nat) : Int) + 1 - 1) = ((l0 + i : Nat) : Int) by omega]
    refine sm_scaleOf hru2 (by omega) (by omega) (by rw [Int.toNat_natCast, t98]; exact wb.1) (by rw [Int.toNat_natCast, t98]; exact wb.2) (by rw [Int.toNat_natCast, t97]; exact fi.1) (by rw [Int.toNat_natCast, t97]; exact fi.2) ?_
    rw [Int.toNat_natCast, t98, t97]
    intro v ev
    subst ev
    rw [show ((i : Int) + 1) = ((i + 1 : Nat) : Int) by omega]
    exact nx
