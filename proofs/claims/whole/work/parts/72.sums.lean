/-! sums over rows: stems, iron, wages, logs by what they became -/
theorem sumv_congr {f g : Nat → Int} {n : Nat} (h : ∀ i, i < n → f i = g i) : sumv f n = sumv g n := by
  induction n with
  | zero => rfl
  | succ n ih =>
    show sumv f n + f n = sumv g n + g n
    rw [ih (fun i hi => h i (by omega)), h n (by omega)]
theorem sumv_add (f : Nat → Int) (a b : Nat) : sumv f (a + b) = sumv f a + sumv (fun i => f (a + i)) b := by
  induction b with
  | zero => show sumv f a = sumv f a + 0; omega
  | succ b ih =>
    show sumv f (a + b) + f (a + b) = sumv f a + (sumv (fun i => f (a + i)) b + f (a + b))
    omega
theorem sumv_blk (f : Nat → Int) (c : Nat) : sumv f (16 * c) = sumv (fun j => sumv (fun i => f (16 * j + i)) 16) c := by
  induction c with
  | zero => rfl
  | succ c ih =>
    show sumv f (16 * (c + 1)) = sumv (fun j => sumv (fun i => f (16 * j + i)) 16) c + sumv (fun i => f (16 * c + i)) 16
    rw [show 16 * (c + 1) = 16 * c + 16 by omega, sumv_add, ih]
theorem sumv_b {f : Nat → Int} {B : Int} (h : ∀ i, 0 ≤ f i ∧ f i ≤ B) (n : Nat) : 0 ≤ sumv f n ∧ sumv f n ≤ B * n := by
  induction n with
  | zero => exact ⟨Int.le_refl _, by show (0 : Int) ≤ B * 0; omega⟩
  | succ n ih =>
    have := h n
    have e : B * ((n + 1 : Nat) : Int) = B * n + B := by
      rw [show ((n + 1 : Nat) : Int) = (n : Int) + 1 by omega, Int.mul_add, Int.mul_one]
    show 0 ≤ sumv f n + f n ∧ sumv f n + f n ≤ B * ((n + 1 : Nat) : Int)
    rw [e]
    omega
theorem stem_loop {σ : St} {c : Nat} {Q : Int → St → Prop} (hc : c < 64) (q : Q (sumv (fun i => σ 30 0 (16 * c + i)) (16 : Int).toNat) σ) : ∀ (k i n : Nat), (i : Int) + k = 16 → k < n → wp_X3_stemsIn_4 Q n σ c (sumv (fun i => σ 30 0 (16 * c + i)) i) i := by
  intro k
  induction k with
  | zero =>
    intro i n hi hn
    obtain ⟨n, rfl⟩ : ∃ n', n = n' + 1 := ⟨n - 1, by omega⟩
    unfold wp_X3_stemsIn_4
    rw [show (16 : Int).toNat = i by omega] at q
    exact ⟨⟨by omega, by omega⟩, fun _ => q, fun z => absurd (by omega) z⟩
  | succ k ih =>
    intro i n hi hn
    obtain ⟨n, rfl⟩ : ∃ n', n = n' + 1 := ⟨n - 1, by omega⟩
    have nx := ih (i + 1) n (by omega) (by omega)
    unfold wp_X3_stemsIn_4
    rw [show Int.toNat ((c : Int) * 16 + (i : Int)) = 16 * c + i by omega, show ((i : Int) + 1) = ((i + 1 : Nat) : Int) by omega]
    exact ⟨⟨by omega, by omega⟩, fun z => absurd z (by omega), fun _ => ⟨by omega, by omega, fun v e => by rw [e]; exact nx⟩⟩
theorem sx_stemsIn {σ : St} {c : Nat} {Q : Int → St → Prop} (hc : c < 64) (q : Q (sumv (fun i => σ 30 0 (16 * c + i)) 16) σ) : wp_X3_stemsIn σ c Q := ⟨17, stem_loop hc q 16 0 17 (by omega) (by omega)⟩
theorem all_loop {σ : St} {Q : Int → St → Prop}  (q : Q (sumv (fun c => sumv (fun i => σ 30 0 (16 * c + i)) 16) (64 : Int).toNat) σ) : ∀ (k i n : Nat), (i : Int) + k = 64 → k < n → wp_X3_allStems_4 Q n σ (sumv (fun c => sumv (fun i => σ 30 0 (16 * c + i)) 16) i) i := by
  intro k
  induction k with
  | zero =>
    intro i n hi hn
    obtain ⟨n, rfl⟩ : ∃ n', n = n' + 1 := ⟨n - 1, by omega⟩
    unfold wp_X3_allStems_4
    rw [show (64 : Int).toNat = i by omega] at q
    exact ⟨⟨by omega, by omega⟩, fun _ => q, fun z => absurd (by omega) z⟩
  | succ k ih =>
    intro i n hi hn
    obtain ⟨n, rfl⟩ : ∃ n', n = n' + 1 := ⟨n - 1, by omega⟩
    have nx := ih (i + 1) n (by omega) (by omega)
    unfold wp_X3_allStems_4
    rw [show ((i : Int) + 1) = ((i + 1 : Nat) : Int) by omega]
    exact ⟨⟨by omega, by omega⟩, fun z => absurd z (by omega), fun _ => sx_stemsIn (by omega) (fun v e => by rw [e]; exact nx)⟩
theorem stemm_loop {σ : St} {c : Nat} {Q : Int → St → Prop} (hc : c < 64) (q : Q (sumv (fun i => σ 85 0 (16 * c + i)) (16 : Int).toNat) σ) : ∀ (k i n : Nat), (i : Int) + k = 16 → k < n → wp_X12_stemsOf_7 Q n σ c (sumv (fun i => σ 85 0 (16 * c + i)) i) ((16 * c + i : Nat) : Int) := by
  intro k
  induction k with
  | zero =>
    intro i n hi hn
    obtain ⟨n, rfl⟩ : ∃ n', n = n' + 1 := ⟨n - 1, by omega⟩
    unfold wp_X12_stemsOf_7
    rw [show (16 : Int).toNat = i by omega] at q
    exact ⟨⟨by omega, by omega⟩, ⟨by omega, by omega⟩, fun _ => q, fun z => absurd (by omega) z⟩
  | succ k ih =>
    intro i n hi hn
    obtain ⟨n, rfl⟩ : ∃ n', n = n' + 1 := ⟨n - 1, by omega⟩
    have nx := ih (i + 1) n (by omega) (by omega)
    unfold wp_X12_stemsOf_7
    rw [Int.toNat_natCast, show (((16 * c + i : Nat) : Int) + 1) = ((16 * c + (i + 1) : Nat) : Int) by omega]
    exact ⟨⟨by omega, by omega⟩, ⟨by omega, by omega⟩, fun z => absurd z (by omega), fun _ => ⟨by omega, by omega, fun v e => by rw [e]; exact nx⟩⟩
theorem sm_stemsOf {σ : St} {c : Nat} {Q : Int → St → Prop} (hc : c < 64) (q : Q (sumv (fun i => σ 85 0 (16 * c + i)) 16) σ) : wp_X12_stemsOf σ c Q := by
  intro v e
  rw [e, show 16 * (c : Int) = ((16 * c + 0 : Nat) : Int) by omega]
  exact ⟨17, stemm_loop hc q 16 0 17 (by omega) (by omega)⟩
theorem all2_loop {σ : St} {Q : Int → St → Prop}  (q : Q (sumv (σ 85 0) (1024 : Int).toNat) σ) : ∀ (k i n : Nat), (i : Int) + k = 1024 → k < n → wp_X12_count_200 Q n σ (sumv (σ 85 0) i) i := by
  intro k
  induction k with
  | zero =>
    intro i n hi hn
    obtain ⟨n, rfl⟩ : ∃ n', n = n' + 1 := ⟨n - 1, by omega⟩
    unfold wp_X12_count_200
    rw [show (1024 : Int).toNat = i by omega] at q
    exact ⟨⟨by omega, by omega⟩, fun _ => q, fun z => absurd (by omega) z⟩
  | succ k ih =>
    intro i n hi hn
    obtain ⟨n, rfl⟩ : ∃ n', n = n' + 1 := ⟨n - 1, by omega⟩
    have nx := ih (i + 1) n (by omega) (by omega)
    unfold wp_X12_count_200
    rw [Int.toNat_natCast, show ((i : Int) + 1) = ((i + 1 : Nat) : Int) by omega]
    exact ⟨⟨by omega, by omega⟩, fun z => absurd z (by omega), fun _ => ⟨by omega, by omega, fun v e => by rw [e]; exact nx⟩⟩
theorem iron_loop {σ : St} {Q : Int → St → Prop} (hw : σ 11 0 6 ≤ 40) (hl : ∀ i : Nat, (i : Int) < σ 11 0 6 → σ 78 0 i ≠ 0 ∧ σ 50 10 i ≠ 0 ∧ inR (σ 10 i 3)) (q : Q (sumv (fun i => if σ 10 i 3 = 0 then 0 else 10) (σ 11 0 6).toNat) σ) : ∀ (k i n : Nat), (i : Int) + k = σ 11 0 6 → k < n → wp_X11_ironLaid_4 Q n σ (sumv (fun i => if σ 10 i 3 = 0 then 0 else 10) i) i := by
  intro k
  induction k with
  | zero =>
    intro i n hi hn
    obtain ⟨n, rfl⟩ : ∃ n', n = n' + 1 := ⟨n - 1, by omega⟩
    unfold wp_X11_ironLaid_4
    rw [show (σ 11 0 6 : Int).toNat = i by omega] at q
    exact ⟨⟨by omega, by omega⟩, ⟨by omega, by omega⟩, fun _ => q, fun z => absurd (by omega) z⟩
  | succ k ih =>
    intro i n hi hn
    obtain ⟨n, rfl⟩ : ∃ n', n = n' + 1 := ⟨n - 1, by omega⟩
    have nx := ih (i + 1) n (by omega) (by omega)
    unfold wp_X11_ironLaid_4 wp_X11_ironLaid_36 wp_X11_ironLaid_37
    obtain ⟨l1, l2, l3⟩ := hl i (by omega)
    have ne : sumv (fun i => if σ 10 i 3 = 0 then 0 else 10) (i + 1) = sumv (fun i => if σ 10 i 3 = 0 then 0 else 10) i + (if σ 10 i 3 = 0 then 0 else 10) := rfl
    rw [ne] at nx
    rw [Int.toNat_natCast, show ((i : Int) + 1) = ((i + 1 : Nat) : Int) by omega]
    refine ⟨⟨by omega, by omega⟩, ⟨by omega, by omega⟩, fun z => absurd z (by omega), fun _ => ⟨by omega, by omega, fun z => absurd z l1, fun _ _ => ⟨l2, l3, fun c v e => ?_, fun c v e => ?_⟩⟩⟩
    · rw [if_pos c] at nx
      rw [e]
      exact nx
    · rw [if_neg c] at nx
      rw [e]
      exact nx
theorem ironm_loop {σ : St} {Q : Int → St → Prop} (hw : σ 12 0 53 ≤ 40) (hl : ∀ i : Nat, (i : Int) < σ 12 0 53 → inR (σ 123 0 i)) (q : Q (sumv (fun i => if σ 123 0 i = 0 then 0 else 10) (σ 12 0 53).toNat) σ) : ∀ (k i n : Nat), (i : Int) + k = σ 12 0 53 → k < n → wp_X12_count_102 Q n σ (sumv (fun i => if σ 123 0 i = 0 then 0 else 10) i) i := by
  intro k
  induction k with
  | zero =>
    intro i n hi hn
    obtain ⟨n, rfl⟩ : ∃ n', n = n' + 1 := ⟨n - 1, by omega⟩
    unfold wp_X12_count_102
    rw [show (σ 12 0 53 : Int).toNat = i by omega] at q
    exact ⟨⟨by omega, by omega⟩, ⟨by omega, by omega⟩, fun _ => q, fun z => absurd (by omega) z⟩
  | succ k ih =>
    intro i n hi hn
    obtain ⟨n, rfl⟩ : ∃ n', n = n' + 1 := ⟨n - 1, by omega⟩
    have nx := ih (i + 1) n (by omega) (by omega)
    unfold wp_X12_count_102 wp_X12_count_126
    have l3 := hl i (by omega)
    have ne : sumv (fun i => if σ 123 0 i = 0 then 0 else 10) (i + 1) = sumv (fun i => if σ 123 0 i = 0 then 0 else 10) i + (if σ 123 0 i = 0 then 0 else 10) := rfl
    rw [ne] at nx
    rw [Int.toNat_natCast, show ((i : Int) + 1) = ((i + 1 : Nat) : Int) by omega]
    refine ⟨⟨by omega, by omega⟩, ⟨by omega, by omega⟩, fun z => absurd z (by omega), fun _ => ⟨by omega, by omega, l3, fun c v e => ?_, fun c v e => ?_⟩⟩
    · rw [if_pos c] at nx
      rw [e]
      exact nx
    · rw [if_neg c] at nx
      rw [e]
      exact nx
theorem wage_loop {σ : St} {Q : Int → St → Prop} (hw : σ 11 0 11 ≤ 20) (hl : ∀ i : Nat, (i : Int) < σ 11 0 11 → σ 79 0 i ≠ 0 ∧ σ 50 1 i ≠ 0) (q : Q (sumv (fun i => σ 1 i 3) (σ 11 0 11).toNat) σ) : ∀ (k i n : Nat), (i : Int) + k = σ 11 0 11 → k < n → wp_X11_wagesPaid_4 Q n σ (sumv (fun i => σ 1 i 3) i) i := by
  intro k
  induction k with
  | zero =>
    intro i n hi hn
    obtain ⟨n, rfl⟩ : ∃ n', n = n' + 1 := ⟨n - 1, by omega⟩
    unfold wp_X11_wagesPaid_4
    rw [show (σ 11 0 11 : Int).toNat = i by omega] at q
    exact ⟨⟨by omega, by omega⟩, ⟨by omega, by omega⟩, fun _ => q, fun z => absurd (by omega) z⟩
  | succ k ih =>
    intro i n hi hn
    obtain ⟨n, rfl⟩ : ∃ n', n = n' + 1 := ⟨n - 1, by omega⟩
    have nx := ih (i + 1) n (by omega) (by omega)
    unfold wp_X11_wagesPaid_4 wp_X11_wagesPaid_32
    obtain ⟨l1, l2⟩ := hl i (by omega)
    rw [Int.toNat_natCast, show ((i : Int) + 1) = ((i + 1 : Nat) : Int) by omega]
    exact ⟨⟨by omega, by omega⟩, ⟨by omega, by omega⟩, fun z => absurd z (by omega), fun _ => ⟨by omega, by omega, fun z => absurd z l1, fun _ _ => ⟨l2, fun v e => by rw [e]; exact nx⟩⟩⟩
theorem wagem_loop {σ : St} {Q : Int → St → Prop} (hw : σ 12 0 60 ≤ 20) (q : Q (sumv (σ 128 0) (σ 12 0 60).toNat) σ) : ∀ (k i n : Nat), (i : Int) + k = σ 12 0 60 → k < n → wp_X12_count_173 Q n σ (sumv (σ 128 0) i) i := by
  intro k
  induction k with
  | zero =>
    intro i n hi hn
    obtain ⟨n, rfl⟩ : ∃ n', n = n' + 1 := ⟨n - 1, by omega⟩
    unfold wp_X12_count_173
    rw [show (σ 12 0 60 : Int).toNat = i by omega] at q
    exact ⟨⟨by omega, by omega⟩, ⟨by omega, by omega⟩, fun _ => q, fun z => absurd (by omega) z⟩
  | succ k ih =>
    intro i n hi hn
    obtain ⟨n, rfl⟩ : ∃ n', n = n' + 1 := ⟨n - 1, by omega⟩
    have nx := ih (i + 1) n (by omega) (by omega)
    unfold wp_X12_count_173
    rw [Int.toNat_natCast, show ((i : Int) + 1) = ((i + 1 : Nat) : Int) by omega]
    exact ⟨⟨by omega, by omega⟩, ⟨by omega, by omega⟩, fun z => absurd z (by omega), fun _ => ⟨by omega, by omega, fun v e => by rw [e]; exact nx⟩⟩
theorem became_loop {σ : St} {w : Int} {Q : Int → St → Prop} (hx : inR w) (hw : σ 11 0 4 ≤ 300) (hl : ∀ i : Nat, (i : Int) < σ 11 0 4 → σ 77 0 i ≠ 0 ∧ σ 50 4 i ≠ 0 ∧ inR (σ 4 i 8)) (q : Q (sumv (fun i => if σ 4 i 8 = w then 1 else 0) (σ 11 0 4).toNat) σ) : ∀ (k i n : Nat), (i : Int) + k = σ 11 0 4 → k < n → wp_X11_logsThatBecame_4 Q n σ w (sumv (fun i => if σ 4 i 8 = w then 1 else 0) i) i := by
  intro k
  induction k with
  | zero =>
    intro i n hi hn
    obtain ⟨n, rfl⟩ : ∃ n', n = n' + 1 := ⟨n - 1, by omega⟩
    unfold wp_X11_logsThatBecame_4
    rw [show (σ 11 0 4 : Int).toNat = i by omega] at q
    exact ⟨⟨by omega, by omega⟩, ⟨by omega, by omega⟩, fun _ => q, fun z => absurd (by omega) z⟩
  | succ k ih =>
    intro i n hi hn
    obtain ⟨n, rfl⟩ : ∃ n', n = n' + 1 := ⟨n - 1, by omega⟩
    have nx := ih (i + 1) n (by omega) (by omega)
    unfold wp_X11_logsThatBecame_4 wp_X11_logsThatBecame_37
    obtain ⟨l1, l2, l3⟩ := hl i (by omega)
    have ne : sumv (fun i => if σ 4 i 8 = w then 1 else 0) (i + 1) = sumv (fun i => if σ 4 i 8 = w then 1 else 0) i + (if σ 4 i 8 = w then 1 else 0) := rfl
    rw [ne] at nx
    rw [Int.toNat_natCast, show ((i : Int) + 1) = ((i + 1 : Nat) : Int) by omega]
    refine ⟨⟨by omega, by omega⟩, ⟨by omega, by omega⟩, fun z => absurd z (by omega), fun _ => ⟨by omega, by omega, fun z => absurd z l1, fun _ _ => ⟨l2, l3, hx, fun c => ?_, fun c => ?_⟩⟩⟩
    · rw [if_neg c, Int.add_zero] at nx
      exact nx
    · rw [if_pos c] at nx
      exact nx
theorem becamem_loop {σ : St} {w : Int} {K : St → Int → Int → Prop} {Q : Int → St → Prop} (hw : σ 12 0 17 ≤ 300) (hl : ∀ i : Nat, (i : Int) < σ 12 0 17 → inR (σ 102 0 i)) (q : K σ w (sumv (fun i => if σ 102 0 i = i_wr (w - 20) then 1 else 0) (σ 12 0 17).toNat)) : ∀ (k i n : Nat), (i : Int) + k = σ 12 0 17 → k < n → wp_X12_count_226 K Q n σ w (sumv (fun i => if σ 102 0 i = i_wr (w - 20) then 1 else 0) i) i := by
  intro k
  induction k with
  | zero =>
    intro i n hi hn
    obtain ⟨n, rfl⟩ : ∃ n', n = n' + 1 := ⟨n - 1, by omega⟩
    unfold wp_X12_count_226
    rw [show (σ 12 0 17 : Int).toNat = i by omega] at q
    exact ⟨⟨by omega, by omega⟩, ⟨by omega, by omega⟩, fun _ => q, fun z => absurd (by omega) z⟩
  | succ k ih =>
    intro i n hi hn
    obtain ⟨n, rfl⟩ : ∃ n', n = n' + 1 := ⟨n - 1, by omega⟩
    have nx := ih (i + 1) n (by omega) (by omega)
    unfold wp_X12_count_226 wp_X12_count_253
    have l3 := hl i (by omega)
    have ne : sumv (fun i => if σ 102 0 i = i_wr (w - 20) then 1 else 0) (i + 1) = sumv (fun i => if σ 102 0 i = i_wr (w - 20) then 1 else 0) i + (if σ 102 0 i = i_wr (w - 20) then 1 else 0) := rfl
    rw [ne] at nx
    rw [Int.toNat_natCast, show ((i : Int) + 1) = ((i + 1 : Nat) : Int) by omega]
    refine ⟨⟨by omega, by omega⟩, ⟨by omega, by omega⟩, fun z => absurd z (by omega), fun _ => ⟨by omega, by omega, l3, wr_in _, fun c v e => ?_, fun c v e => ?_⟩⟩
    · rw [if_neg c] at nx
      rw [e]
      exact nx
    · rw [if_pos c] at nx
      rw [e]
      exact nx
theorem lies_loop {σ : St} {w : Int} {Q : Int → St → Prop} (hx : inR w) (hw : σ 12 0 17 ≤ 300) (hl : ∀ i : Nat, (i : Int) < σ 12 0 17 → inR (σ 102 0 i) ∧ inR (σ 95 0 i)) (q : Q (lies (σ 102 0) (σ 95 0) w (σ 12 0 17).toNat) σ) : ∀ (k i n : Nat), (i : Int) + k = σ 12 0 17 → k < n → wp_X12_of_69 Q n σ w (lies (σ 102 0) (σ 95 0) w i) i := by
  intro k
  induction k with
  | zero =>
    intro i n hi hn
    obtain ⟨n, rfl⟩ : ∃ n', n = n' + 1 := ⟨n - 1, by omega⟩
    unfold wp_X12_of_69
    rw [show (σ 12 0 17 : Int).toNat = i by omega] at q
    exact ⟨⟨by omega, by omega⟩, ⟨by omega, by omega⟩, fun _ => q, fun z => absurd (by omega) z⟩
  | succ k ih =>
    intro i n hi hn
    obtain ⟨n, rfl⟩ : ∃ n', n = n' + 1 := ⟨n - 1, by omega⟩
    have nx := ih (i + 1) n (by omega) (by omega)
    unfold wp_X12_of_69 wp_X12_of_104 wp_X12_of_105
    obtain ⟨l3, l4⟩ := hl i (by omega)
    have ne : lies (σ 102 0) (σ 95 0) w (i + 1) = lies (σ 102 0) (σ 95 0) w i + (if σ 102 0 i = 0 ∧ σ 95 0 i = w then 1 else 0) := rfl
    rw [ne] at nx
    rw [Int.toNat_natCast, show ((i : Int) + 1) = ((i + 1 : Nat) : Int) by omega]
    refine ⟨⟨by omega, by omega⟩, ⟨by omega, by omega⟩, fun z => absurd z (by omega), fun _ => ⟨by omega, by omega, l3, fun c v e => ?_, fun c => ⟨by omega, by omega, l4, hx, fun d v e => ?_, fun d v e => ?_⟩⟩⟩
    · rw [if_neg (fun z => c z.1)] at nx
      rw [e]
      exact nx
    · rw [if_neg (fun z => d z.2)] at nx
      rw [e]
      exact nx
    · rw [if_pos ⟨c, d⟩] at nx
      rw [e]
      exact nx
