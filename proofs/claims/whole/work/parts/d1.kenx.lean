/-! a text's tokens, of the class -/
def TpX (S : St) (b : Nat → Int) (z : Nat) : Prop := S 76 0 = b ∧ S 9 0 1 = z ∧ z ≤ 300 ∧ ∀ i, 0 ≤ b i ∧ b i ≤ 255
theorem let_loop {S : St} {b : Nat → Int} {z : Nat} {Q : Int → St → Prop} (hT : TpX S b z) : ∀ (k p n : Nat), z - p ≤ k → p ≤ z → k < n → Q (scz (isL b) z p : Nat) S → wp_X9_behindLetters_2 Q n S p := by
  obtain ⟨hb, hz, h3, hv⟩ := hT
  intro k
  induction k with
  | zero =>
    intro p n hk hp hn q
    obtain ⟨n, rfl⟩ : ∃ n', n = n' + 1 := ⟨n - 1, by omega⟩
    rw [scz_stop (fun c => by omega)] at q
    unfold wp_X9_behindLetters_2
    rw [hz]
    exact ⟨⟨by omega, by omega⟩, ⟨by omega, by omega⟩, fun _ => q, fun z => absurd (by omega) z⟩
  | succ k ih =>
    intro p n hk hp hn q
    obtain ⟨n, rfl⟩ : ∃ n', n = n' + 1 := ⟨n - 1, by omega⟩
    have bp := hv p
    unfold wp_X9_behindLetters_2 wp_X9_isLetter
    rw [hz, hb, Int.toNat_natCast, show ((p : Int) + 1) = ((p + 1 : Nat) : Int) by omega]
    refine ⟨⟨by omega, by omega⟩, ⟨by omega, by omega⟩, fun y => ?_, fun y => ⟨by omega, by omega, ?_⟩⟩
    · rw [scz_stop (fun c => by omega)] at q
      exact q
    · refine wi_x ⟨by omega, by omega⟩ ⟨by decide, by decide⟩ ⟨by decide, by decide⟩ (fun c1 c2 => ⟨Or.inr rfl, in1, fun c => absurd c (by decide), fun _ => ih (p + 1) n (by omega) (by omega) (by omega) ?_⟩) (fun c => ⟨Or.inl rfl, in0, fun _ => ?_, fun c => absurd rfl c⟩)
      · rw [← scz_go (by omega) (show isL b p from ⟨c1, c2⟩)]
        exact q
      · rw [scz_stop (fun y => c y.2)] at q
        exact q
theorem dig_loop {S : St} {b : Nat → Int} {z : Nat} {Q : Int → St → Prop} (hT : TpX S b z) : ∀ (k p n : Nat), z - p ≤ k → p ≤ z → k < n → Q (scz (isD b) z p : Nat) S → wp_X9_behindDigits_2 Q n S p := by
  obtain ⟨hb, hz, h3, hv⟩ := hT
  intro k
  induction k with
  | zero =>
    intro p n hk hp hn q
    obtain ⟨n, rfl⟩ : ∃ n', n = n' + 1 := ⟨n - 1, by omega⟩
    rw [scz_stop (fun c => by omega)] at q
    unfold wp_X9_behindDigits_2
    rw [hz]
    exact ⟨⟨by omega, by omega⟩, ⟨by omega, by omega⟩, fun _ => q, fun z => absurd (by omega) z⟩
  | succ k ih =>
    intro p n hk hp hn q
    obtain ⟨n, rfl⟩ : ∃ n', n = n' + 1 := ⟨n - 1, by omega⟩
    have bp := hv p
    unfold wp_X9_behindDigits_2 wp_X9_isDigit
    rw [hz, hb, Int.toNat_natCast, show ((p : Int) + 1) = ((p + 1 : Nat) : Int) by omega]
    refine ⟨⟨by omega, by omega⟩, ⟨by omega, by omega⟩, fun y => ?_, fun y => ⟨by omega, by omega, ?_⟩⟩
    · rw [scz_stop (fun c => by omega)] at q
      exact q
    · refine wi_x ⟨by omega, by omega⟩ ⟨by decide, by decide⟩ ⟨by decide, by decide⟩ (fun c1 c2 => ⟨Or.inr rfl, in1, fun c => absurd c (by decide), fun _ => ih (p + 1) n (by omega) (by omega) (by omega) ?_⟩) (fun c => ⟨Or.inl rfl, in0, fun _ => ?_, fun c => absurd rfl c⟩)
      · rw [← scz_go (by omega) (show isD b p from ⟨c1, c2⟩)]
        exact q
      · rw [scz_stop (fun y => c y.2)] at q
        exact q
theorem blk_loop {S : St} {b : Nat → Int} {z : Nat} {K : St → Int → Prop} {Q : St → Prop} (hT : TpX S b z) : ∀ (k p n : Nat), z - p ≤ k → p ≤ z → k < n → K S (scz (isB b) z p : Nat) → wp_X9_next_5 K Q n S p := by
  obtain ⟨hb, hz, h3, hv⟩ := hT
  intro k
  induction k with
  | zero =>
    intro p n hk hp hn q
    obtain ⟨n, rfl⟩ : ∃ n', n = n' + 1 := ⟨n - 1, by omega⟩
    rw [scz_stop (fun c => by omega)] at q
    unfold wp_X9_next_5
    rw [hz]
    exact ⟨⟨by omega, by omega⟩, ⟨by omega, by omega⟩, fun _ => q, fun z => absurd (by omega) z⟩
  | succ k ih =>
    intro p n hk hp hn q
    obtain ⟨n, rfl⟩ : ∃ n', n = n' + 1 := ⟨n - 1, by omega⟩
    have bp := hv p
    unfold wp_X9_next_5 wp_X9_isBlank
    rw [hz, hb, Int.toNat_natCast, show ((p : Int) + 1) = ((p + 1 : Nat) : Int) by omega]
    have go : p < z → isB b p → wp_X9_next_5 K Q n S ((p + 1 : Nat) : Int) := fun hl hB => ih (p + 1) n (by omega) (by omega) (by omega) (by rw [← scz_go hl hB]; exact q)
    refine ⟨⟨by omega, by omega⟩, ⟨by omega, by omega⟩, fun y => ?_, fun y => ⟨by omega, by omega, ⟨⟨by omega, by omega⟩, fun c => ⟨in1, fun c => absurd c (by decide), fun _ => go (by omega) (Or.inl c)⟩, fun c => ⟨⟨by omega, by omega⟩, fun d => ⟨in0, fun _ => ?_, fun c => absurd rfl c⟩, fun d => ⟨in1, fun c => absurd c (by decide), fun _ => go (by omega) (Or.inr d)⟩⟩⟩⟩⟩
    · rw [scz_stop (fun c => by omega)] at q
      exact q
    · rw [scz_stop (fun y => by rcases y.2 with w | w <;> omega)] at q
      exact q
/-- the class behind the next token -/
def NxX (S S' : St) (kd : Int) (fr to : Nat) : Prop := (∀ k, ¬ k = 9 → S' k = S k) ∧ (∀ i, ¬ i = 2 → ¬ i = 3 → ¬ i = 4 → S' 9 0 i = S 9 0 i) ∧ S' 9 0 2 = kd ∧ S' 9 0 3 = fr ∧ S' 9 0 4 = to
theorem sx_next {S : St} {b : Nat → Int} {z p : Nat} {Q : St → Prop} (hT : TpX S b z) (h4 : S 9 0 4 = p) (hp : p ≤ z) (q : ∀ S', NxX S S' (tkK b z p) (tkF b z p) (tkT b z p) → Q S') : wp_X9_next S Q := by
  have fb : p ≤ tkF b z p ∧ tkF b z p ≤ z := scz_b hp
  unfold wp_X9_next
  rw [h4]
  intro v ev
  subst ev
  refine ⟨301, blk_loop hT 300 p 301 (by have := hT.2.2.1; omega) hp (by omega) ?_⟩
  have eF : scz (isB b) z p = tkF b z p := rfl
  rw [eF]
  unfold tkK tkT at q
  obtain ⟨f, ef⟩ : ∃ f, f = tkF b z p := ⟨_, rfl⟩
  rw [← ef] at q fb ⊢
  obtain ⟨hb, hz, h3, hv⟩ := hT
  have bf := hv f
  unfold wp_X9_next_31
  intro s4 e4
  have r1 : s4 9 0 1 = z := by rw [e4, rs_eq, up_ne (by decide), hz]
  have r76 : s4 76 0 = b := by rw [e4, rs_ne (by decide), hb]
  have r3 : s4 9 0 3 = f := by rw [e4, rs_eq, up_eq]
  have T4 : TpX s4 b z := ⟨r76, r1, h3, hv⟩
  have fin : ∀ (S2 : St) (kd : Int) (to : Nat), (∃ v, S2 = st s4 9 0 2 v ∧ v = kd) → kd = kdF b z f → to = toF b z f → wp_X9_next_145 Q S2 to := by
    intro S2 kd to h2 hk ht
    obtain ⟨v, e2, ev⟩ := h2
    unfold wp_X9_next_145
    intro s5 e5
    refine q s5 ⟨fun k z1 => by rw [e5, rs_ne z1, e2, rs_ne z1, e4, rs_ne z1], fun i z1 z2 z3 => by rw [e5, rs_eq, up_ne z3, e2, rs_eq, up_ne z1, e4, rs_eq, up_ne z2], ?_, ?_, ?_⟩
    · rw [e5, rs_eq, up_ne (by decide), e2, rs_eq, up_eq, ev, hk]
    · rw [e5, rs_eq, up_ne (by decide), e2, rs_eq, up_ne (by decide), r3]
    · rw [e5, rs_eq, up_eq, ht]
  unfold kdF toF at fin
  rw [r1, r76, Int.toNat_natCast]
  refine ⟨⟨by omega, by omega⟩, ⟨by omega, by omega⟩, fun c0 => ⟨by omega, by omega, ?_⟩, fun c0 s5 e5 => fin s5 0 f ⟨0, e5, rfl⟩ (by rw [cif_p (by omega)]) (by rw [cif_p (by omega)])⟩
  have n0 : ¬ z ≤ f := by omega
  rw [cif_n n0, cif_n n0] at fin
  unfold wp_X9_isLetter wp_X9_isDigit
  refine wi_x ⟨by omega, by omega⟩ ⟨by decide, by decide⟩ ⟨by decide, by decide⟩ (fun c1 c2 => ⟨Or.inr rfl, in1, fun c => absurd c (by decide), fun _ s28 e28 => ⟨301, ?_⟩⟩) (fun c => ⟨Or.inl rfl, in0, fun _ => ⟨by omega, by omega, ?_⟩, fun c => absurd rfl c⟩)
  · have T28 : TpX s28 b z := ⟨by rw [e28, rs_ne (by decide), r76], by rw [e28, rs_eq, up_ne (by decide), r1], h3, hv⟩
    have l1 : isL b f := ⟨c1, c2⟩
    rw [cif_p l1, cif_p l1] at fin
    exact let_loop T28 300 f 301 (by omega) (by omega) (by omega) (fin s28 1 _ ⟨1, e28, rfl⟩ rfl rfl)
  · have l0 : ¬ isL b f := c
    rw [cif_n l0, cif_n l0] at fin
    rw [r76]
    refine wi_x ⟨by omega, by omega⟩ ⟨by decide, by decide⟩ ⟨by decide, by decide⟩ (fun c1 c2 => ⟨Or.inr rfl, in1, fun c => absurd c (by decide), fun _ => ⟨301, ?_⟩⟩) (fun c => ⟨Or.inl rfl, in0, fun _ => ⟨by omega, by omega, ?_⟩, fun c => absurd rfl c⟩)
    · have d1 : isD b f := ⟨c1, c2⟩
      rw [cif_p d1, cif_p d1] at fin
      have sb := scz_b (P := isD b) (z := z) (p := f) (by omega)
      refine dig_loop T4 300 f 301 (by omega) (by omega) (by omega) ?_
      unfold wp_X9_next_112
      rw [r3]
      refine ⟨⟨by omega, by omega⟩, fun c s5 e5 => fin s5 2 _ ⟨2, e5, rfl⟩ (by rw [cif_p (by omega)]) rfl, fun c s5 e5 => fin s5 4 _ ⟨4, e5, rfl⟩ (by rw [cif_n (by omega)]) rfl⟩
    · have d0 : ¬ isD b f := c
      rw [cif_n d0, cif_n d0] at fin
      rw [r76]
      refine sj_sign bf ?_
      have sb : -1 ≤ sgv (b f) ∧ sgv (b f) ≤ 3 := by
        unfold sgv
        repeat' split
        all_goals omega
      unfold wp_X9_next_139
      rw [show ((f : Int) + 1) = ((f + 1 : Nat) : Int) by omega]
      refine ⟨⟨by omega, by omega⟩, fun c s5 e5 => fin s5 4 _ ⟨4, e5, rfl⟩ (by rw [cif_p (by omega)]) rfl, fun c s5 e5 => fin s5 3 _ ⟨3, e5, rfl⟩ (by rw [cif_n (by omega)]) rfl⟩
/-! words, numbers and signs -/
/-- the token from fr to `to` is the piece x .. y of string j -/
def prt (b : Nat → Int) (fr to j x y : Nat) : Prop := y - x = to - fr ∧ ∀ i, i < y - x → sbyt j (x + i) = b (fr + i)
theorem part_loop {S : St} {b : Nat → Int} {z j x y fr to : Nat} {Q : Int → St → Prop} (hT : TpX S b z) (hj : j < 27) (hxy : x ≤ y) (hy : (y : Int) ≤ slen j) (h3 : S 9 0 3 = fr) (hft : fr ≤ to) (htz : to ≤ z) (he : y - x = to - fr) (q1 : prt b fr to j x y → Q 1 S) (q0 : ¬ prt b fr to j x y → Q 0 S) :
    ∀ (k i n : Nat), i + k = y - x → k < n → (∀ i', i' < i → sbyt j (x + i') = b (fr + i')) → wp_X9_isPart_20 Q n S j x y i := by
  obtain ⟨hb, hz, hz3, hv⟩ := hT
  have sl := slen_d j hj
  intro k
  induction k with
  | zero =>
    intro i n hk hn h
    obtain ⟨n, rfl⟩ : ∃ n', n = n' + 1 := ⟨n - 1, by omega⟩
    unfold wp_X9_isPart_20
    exact ⟨⟨by omega, by omega⟩, ⟨by omega, by omega⟩, fun _ => q1 ⟨he, fun i' hi' => h i' (by omega)⟩, fun z => absurd (by omega) z⟩
  | succ k ih =>
    intro i n hk hn h
    obtain ⟨n, rfl⟩ : ∃ n', n = n' + 1 := ⟨n - 1, by omega⟩
    have bf := hv (fr + i)
    obtain ⟨-, d2, d3⟩ := sbyt_d j hj (x + i) (by omega)
    unfold wp_X9_isPart_20
    refine ⟨⟨by omega, by omega⟩, ⟨by omega, by omega⟩, fun z => absurd z (by omega), fun _ => ⟨hj, sj_char (k := x + i) hj (by omega) (by omega) ?_⟩⟩
    rw [h3, hb, show Int.toNat ((fr : Int) + i) = fr + i by omega, show ((i : Int) + 1) = ((i + 1 : Nat) : Int) by omega]
    refine ⟨by omega, by omega, ⟨by omega, by omega⟩, ⟨by omega, by omega⟩, fun e => ih (i + 1) n (by omega) (by omega) (fun i' hi' => ?_), fun e => q0 (fun w => e (w.2 i (by omega)))⟩
    by_cases c : i' = i
    · rw [c]; exact e
    · exact h i' (by omega)
theorem sx_part {S : St} {b : Nat → Int} {z j x y fr to : Nat} {x2 x3 : Int} {Q : Int → St → Prop} (hT : TpX S b z) (hj : j < 27) (hx2 : x2 = (x : Int)) (hx3 : x3 = (y : Int)) (hxy : x ≤ y) (hy : (y : Int) ≤ slen j) (h3 : S 9 0 3 = fr) (h4 : S 9 0 4 = to) (hft : fr ≤ to) (htz : to ≤ z) (q1 : prt b fr to j x y → Q 1 S) (q0 : ¬ prt b fr to j x y → Q 0 S) : wp_X9_isPart S j x2 x3 Q := by
  have sl := slen_d j hj
  have z3 := hT.2.2.1
  unfold wp_X9_isPart
  rw [h3, h4, hx2, hx3]
  exact ⟨⟨by omega, by omega⟩, ⟨by omega, by omega⟩, fun e => ⟨y - x + 1, part_loop hT hj hxy hy h3 hft htz (by omega) q1 q0 (y - x) 0 _ (by omega) (by omega) (fun i' hi' => absurd hi' (by omega))⟩, fun e => q0 (fun w => e (by have := w.1; omega))⟩
/-- the token is the word j -/
def isW (b : Nat → Int) (kd : Int) (fr to j : Nat) : Prop := kd = 1 ∧ prt b fr to j 0 (slen j).toNat
theorem sx_isWord {S : St} {b : Nat → Int} {z j fr to : Nat} {kd : Int} {Q : Int → St → Prop} (hT : TpX S b z) (hj : j < 27) (h2 : S 9 0 2 = kd) (hk : inR kd) (h3 : S 9 0 3 = fr) (h4 : S 9 0 4 = to) (hft : fr ≤ to) (htz : to ≤ z) (q1 : isW b kd fr to j → Q 1 S) (q0 : ¬ isW b kd fr to j → Q 0 S) : wp_X9_isWord S j Q := by
  have sl := slen_d j hj
  unfold wp_X9_isWord
  rw [h2]
  refine ⟨hk, fun z => q0 (fun w => z w.1), fun z => ⟨hj, sj_len hj (sx_part (x := 0) (y := (slen j).toNat) hT hj rfl (by omega) (by omega) (by omega) h3 h4 hft htz (fun w => ⟨in1, fun c => absurd c (by decide), fun _ => q1 ⟨z, w⟩⟩) (fun w => ⟨in0, fun _ => q0 (fun v => w v.2), fun c => absurd rfl c⟩))⟩⟩
/-- which word of a list, as the class finds it: at place `at'`, in word w that began at x -/
noncomputable def wIn (P : Nat → Nat → Prop) (L : Nat → Int) (len : Nat) : Nat → Nat → Nat → Nat → Int
  | 0, _, _, _ => -1
  | f + 1, w, x, a => if a = len ∨ L a = 32 then cif (P x a) (w : Int) (wIn P L len f (w + 1) (a + 1) (a + 1)) else wIn P L len f w x (a + 1)
theorem wordIn_loop {S : St} {b : Nat → Int} {z j fr to len : Nat} {Q : Int → St → Prop} (hT : TpX S b z) (hj : j < 27) (hlen : slen j = len) (h2 : S 9 0 2 = 1) (h3 : S 9 0 3 = fr) (h4 : S 9 0 4 = to) (hft : fr ≤ to) (htz : to ≤ z) :
    ∀ (k w x a n : Nat), a + k = len + 1 → k < n → x ≤ a → Q (wIn (prt b fr to j) (sbyt j) len k w x a) S → wp_X9_wordIn_7 Q n S j w x a := by
  have sl := slen_d j hj
  intro k
  induction k with
  | zero =>
    intro w x a n hk hn hx q
    obtain ⟨n, rfl⟩ : ∃ n', n = n' + 1 := ⟨n - 1, by omega⟩
    unfold wp_X9_wordIn_7
    refine ⟨hj, sj_len hj ⟨⟨by omega, by omega⟩, ⟨by omega, by omega⟩, fun _ => q, fun z => absurd (by omega) z⟩⟩
  | succ k ih =>
    intro w x a n hk hn hx q
    obtain ⟨n, rfl⟩ : ∃ n', n = n' + 1 := ⟨n - 1, by omega⟩
    have e0 : wIn (prt b fr to j) (sbyt j) len (k + 1) w x a = if a = len ∨ sbyt j a = 32 then cif (prt b fr to j x a) (w : Int) (wIn (prt b fr to j) (sbyt j) len k (w + 1) (a + 1) (a + 1)) else wIn (prt b fr to j) (sbyt j) len k w x (a + 1) := rfl
    rw [e0] at q
    have go : (a = len ∨ sbyt j a = 32) → wp_X9_wordIn_44 (fun σ j1 x2 x3 x4 => wp_X9_wordIn_7 Q n σ j1 x2 x3 x4) Q S j w x a := by
      intro c
      rw [if_pos c] at q
      unfold wp_X9_wordIn_44 wp_X9_wordIn_65
      refine sx_part (x := x) (y := a) hT hj rfl rfl hx (by omega) h3 h4 hft htz (fun y => ⟨in1, fun c => absurd c (by decide), fun _ => ?_⟩) (fun y => ⟨in0, fun _ v ev => ?_, fun c => absurd rfl c⟩)
      · rw [cif_p y] at q
        exact q
      · rw [cif_n y] at q
        rw [ev, show ((a : Int) + 1) = ((a + 1 : Nat) : Int) by omega, show ((w : Int) + 1) = ((w + 1 : Nat) : Int) by omega]
        exact ih (w + 1) (a + 1) (a + 1) n (by omega) (by omega) (by omega) q
    unfold wp_X9_wordIn_7
    refine ⟨hj, sj_len hj ⟨⟨by omega, by omega⟩, ⟨by omega, by omega⟩, fun z => absurd z (by omega), fun _ => ?_⟩⟩
    rw [h2]
    refine ⟨in1, fun z => absurd rfl z, fun _ => ⟨hj, sj_len hj ⟨⟨by omega, by omega⟩, ⟨by omega, by omega⟩, fun z => go (Or.inl (by omega)), fun z => ⟨hj, sj_char (k := a) hj rfl (by omega) ?_⟩⟩⟩⟩
    obtain ⟨-, d2, d3⟩ := sbyt_d j hj a (by omega)
    refine ⟨⟨by omega, by omega⟩, fun y => ?_, fun y => go (Or.inr y)⟩
    rw [if_neg (fun c => by rcases c with c | c <;> omega)] at q
    unfold wp_X9_wordIn_65
    rw [show ((a : Int) + 1) = ((a + 1 : Nat) : Int) by omega]
    exact ih w x (a + 1) n (by omega) (by omega) (by omega) q
theorem sx_wordIn {S : St} {b : Nat → Int} {z j fr to len : Nat} {kd : Int} {Q : Int → St → Prop} (hT : TpX S b z) (hj : j < 27) (hlen : slen j = len) (h2 : S 9 0 2 = kd) (hk : inR kd) (h3 : S 9 0 3 = fr) (h4 : S 9 0 4 = to) (hft : fr ≤ to) (htz : to ≤ z) (q : Q (cif (kd = 1) (wIn (prt b fr to j) (sbyt j) len (len + 1) 0 0 0) (-1)) S) : wp_X9_wordIn S j Q := by
  have sl := slen_d j hj
  refine ⟨len + 2, ?_⟩
  by_cases c : kd = 1
  · rw [cif_p c] at q
    exact wordIn_loop hT hj hlen (by rw [h2, c]) h3 h4 hft htz (len + 1) 0 0 0 (len + 2) (by omega) (by omega) (by omega) q
  · rw [cif_n c] at q
    unfold wp_X9_wordIn_7
    refine ⟨hj, sj_len hj ⟨in0, ⟨by omega, by omega⟩, fun _ => q, fun _ => ?_⟩⟩
    rw [h2]
    exact ⟨hk, fun _ => q, fun z => absurd z c⟩
/-- a number's value -/
def nmv (b : Nat → Int) (p : Nat) : Nat → Int
  | 0 => 0
  | k + 1 => nmv b p k * 10 + b (p + k) - 48
theorem num_loopX {S : St} {b : Nat → Int} {z fr to : Nat} {Q : Int → St → Prop} (hT : TpX S b z) (h4 : S 9 0 4 = to) (hft : fr ≤ to) (htz : to ≤ z) (q : Q (nmv b fr (to - fr)) S) : ∀ (k i n : Nat), i + k = to - fr → k < n → wp_X9_number_17 Q n S (nmv b fr i) ((fr : Int) + i) := by
  obtain ⟨hb, hz, h3, hv⟩ := hT
  intro k
  induction k with
  | zero =>
    intro i n hk hn
    obtain ⟨n, rfl⟩ : ∃ n', n = n' + 1 := ⟨n - 1, by omega⟩
    have e : i = to - fr := by omega
    subst e
    unfold wp_X9_number_17
    rw [h4]
    exact ⟨⟨by omega, by omega⟩, ⟨by omega, by omega⟩, fun _ => q, fun z => absurd (by omega) z⟩
  | succ k ih =>
    intro i n hk hn
    obtain ⟨n, rfl⟩ : ∃ n', n = n' + 1 := ⟨n - 1, by omega⟩
    have nx := ih (i + 1) n (by omega) (by omega)
    unfold wp_X9_number_17
    rw [h4, hb, show Int.toNat ((fr : Int) + i) = fr + i by omega]
    refine ⟨⟨by omega, by omega⟩, ⟨by omega, by omega⟩, fun z => absurd z (by omega), fun _ => ⟨by omega, by omega, fun v ev => ?_⟩⟩
    rw [ev, show (fr : Int) + i + 1 = (fr : Int) + ((i + 1 : Nat) : Int) by omega]
    exact nx
theorem sx_number {S : St} {b : Nat → Int} {z fr to : Nat} {kd : Int} {Q : Int → St → Prop} (hT : TpX S b z) (h2 : S 9 0 2 = kd) (hk : inR kd) (h3 : S 9 0 3 = fr) (h4 : S 9 0 4 = to) (hft : fr ≤ to) (htz : to ≤ z) (q : Q (cif (kd = 2) (nmv b fr (to - fr)) (-1)) S) : wp_X9_number S Q := by
  unfold wp_X9_number
  rw [h2]
  refine ⟨hk, fun c v ev => ⟨to - fr + 1, ?_⟩, fun c => ?_⟩
  · rw [cif_p c] at q
    have l := num_loopX hT h4 hft htz q (to - fr) 0 (to - fr + 1) (by omega) (by omega)
    rw [ev, h3]
    rw [show (fr : Int) + ((0 : Nat) : Int) = (fr : Int) by omega] at l
    exact l
  · rw [cif_n c] at q
    exact q
theorem sx_sign {S : St} {b : Nat → Int} {z fr : Nat} {kd : Int} {Q : Int → St → Prop} (hT : TpX S b z) (h2 : S 9 0 2 = kd) (hk : inR kd) (h3 : S 9 0 3 = fr) (hf : kd = 3 → fr < z) (q : Q (cif (kd = 3) (sgv (b fr)) (-1)) S) : wp_X9_sign S Q := by
  have bf := hT.2.2.2 fr
  have z3 := hT.2.2.1
  unfold wp_X9_sign
  rw [h2]
  refine ⟨hk, fun c => ?_, fun c => ?_⟩
  · rw [cif_n c] at q
    exact q
  · rw [cif_p c] at q
    have := hf c
    rw [h3, hT.1, Int.toNat_natCast]
    exact ⟨by omega, by omega, sj_sign bf q⟩
