/-! slices: how a world is read behind writes -/
theorem rs_ne {σ : St} {k j i k' : Nat} {v : Int} (h : ¬ k' = k) : st σ k j i v k' = σ k' := by
  funext j'
  exact if_neg (fun e => h e.1)
theorem rs_nej {σ : St} {k j i k' j' : Nat} {v : Int} (h : ¬ j' = j) : st σ k j i v k' j' = σ k' j' := if_neg (fun e => h e.2)
theorem rs_eq {σ : St} {k j i : Nat} {v : Int} : st σ k j i v k j = up (σ k j) i v := if_pos ⟨rfl, rfl⟩
theorem ra_ne {σ : St} {k j k' : Nat} {f : Nat → Int} (h : ¬ k' = k) : sta σ k j f k' = σ k' := by
  funext j'
  exact if_neg (fun e => h e.1)
theorem ra_nej {σ : St} {k j k' j' : Nat} {f : Nat → Int} (h : ¬ j' = j) : sta σ k j f k' j' = σ k' j' := if_neg (fun e => h e.2)
theorem ra_eq {σ : St} {k j : Nat} {f : Nat → Int} : sta σ k j f k j = f := if_pos ⟨rfl, rfl⟩
theorem up_eq {f : Nat → Int} {i : Nat} {v : Int} : up f i v i = v := if_pos rfl
theorem up_ne {f : Nat → Int} {i j : Nat} {v : Int} (h : ¬ j = i) : up f i v j = f j := if_neg h
theorem st_sta {σ : St} {k j i : Nat} {v : Int} : st σ k j i v = sta σ k j (up (σ k j) i v) := by
  funext k' j'
  unfold st sta
  rfl
theorem sta_sta {σ : St} {k j : Nat} {f g : Nat → Int} : sta (sta σ k j f) k j g = sta σ k j g := by
  funext k' j'
  unfold sta
  split <;> rfl
theorem st_stae {σ : St} {k j i : Nat} {f : Nat → Int} {v : Int} : st (sta σ k j f) k j i v = sta σ k j (up f i v) := by
  rw [st_sta, sta_sta, ra_eq]
theorem sta_self {σ : St} {k j : Nat} : sta σ k j (σ k j) = σ := by
  funext k' j'
  unfold sta
  split
  · next h => rw [h.1, h.2]
  · rfl
theorem sta_cm {σ : St} {k j k' j' : Nat} {f g : Nat → Int} (h : ¬ (k' = k ∧ j' = j)) : sta (sta σ k j f) k' j' g = sta (sta σ k' j' g) k j f := by
  funext a b
  unfold sta
  by_cases h1 : a = k' ∧ b = j'
  · rw [if_pos h1, if_neg (fun e => h ⟨by rw [← h1.1, e.1], by rw [← h1.2, e.2]⟩), if_pos h1]
  · rw [if_neg h1]
    by_cases h2 : a = k ∧ b = j
    · rw [if_pos h2, if_pos h2]
    · rw [if_neg h2, if_neg h2, if_neg h1]
theorem st_stac {σ : St} {k j k' j' i : Nat} {f : Nat → Int} {v : Int} (h : ¬ k' = k) : st (sta σ k j f) k' j' i v = sta (st σ k' j' i v) k j f := by
  rw [st_sta, st_sta, ra_ne h, sta_cm (fun e => h e.1)]
theorem up_up {f : Nat → Int} {i : Nat} {v w : Int} : up (up f i v) i w = up f i w := by
  funext j
  unfold up
  split <;> rfl
theorem up_self {f : Nat → Int} {i : Nat} : up f i (f i) = f := by
  funext j
  unfold up
  split
  · next h => rw [h]
  · rfl
theorem st_self {σ : St} {k j i : Nat} : st σ k j i (σ k j i) = σ := by
  rw [st_sta, up_self, sta_self]
/-- rows of a kind: one of them is changed -/
def upj (F : Nat → Nat → Int) (j i : Nat) (v : Int) : Nat → Nat → Int := fun j' => if j' = j then up (F j) i v else F j'
def upr (F : Nat → Nat → Int) (j : Nat) (f : Nat → Int) : Nat → Nat → Int := fun j' => if j' = j then f else F j'
theorem rs_fn {σ : St} {k j i : Nat} {v : Int} : st σ k j i v k = upj (σ k) j i v := by
  funext j'
  unfold st upj
  by_cases h : j' = j
  · rw [if_pos ⟨rfl, h⟩, if_pos h]
  · rw [if_neg (fun e => h e.2), if_neg h]
theorem ra_fn {σ : St} {k j : Nat} {f : Nat → Int} : sta σ k j f k = upr (σ k) j f := by
  funext j'
  unfold sta upr
  by_cases h : j' = j
  · rw [if_pos ⟨rfl, h⟩, if_pos h]
  · rw [if_neg (fun e => h e.2), if_neg h]
theorem upj_eq {F : Nat → Nat → Int} {j i : Nat} {v : Int} : upj F j i v j = up (F j) i v := if_pos rfl
theorem upj_ne {F : Nat → Nat → Int} {j i j' : Nat} {v : Int} (h : ¬ j' = j) : upj F j i v j' = F j' := if_neg h
theorem upr_eq {F : Nat → Nat → Int} {j : Nat} {f : Nat → Int} : upr F j f j = f := if_pos rfl
theorem upr_ne {F : Nat → Nat → Int} {j j' : Nat} {f : Nat → Int} (h : ¬ j' = j) : upr F j f j' = F j' := if_neg h
/-! what class and reference keep alike -/
def I_sky (s7 days vals : Nat → Int) (now tel : Int) (tD tS tW tY : Nat → Int) : Prop :=
  (tel = s7 2 ∧ now = s7 3 ∧ tD = days) ∧ (0 ≤ s7 2 ∧ s7 2 ≤ 200 ∧ 0 ≤ s7 3 ∧ s7 3 ≤ 3999) ∧ (∀ i, 0 ≤ days i ∧ days i ≤ 3999) ∧ (∀ i : Nat, tS i = vals (3 * i) ∧ tW i = vals (3 * i + 1) ∧ tY i = vals (3 * i + 2)) ∧ (∀ i, 0 ≤ vals i ∧ vals i ≤ 9) ∧ s7 4 = lat days (s7 3) (s7 2).toNat
def I_land (h s t g p : Nat → Int) (mill : Int) (h2 s2 t2 g2 p2 : Nat → Int) (mill2 lc : Int) : Prop :=
  (h2 = h ∧ s2 = s ∧ t2 = t ∧ g2 = g ∧ p2 = p ∧ mill2 = mill) ∧ (0 ≤ mill ∧ mill ≤ 63) ∧ (∀ i, 0 ≤ h i ∧ h i ≤ 40) ∧ (∀ i, 0 ≤ s i ∧ s i ≤ 3 * lc) ∧ (∀ i, 0 ≤ t i ∧ t i ≤ 200) ∧ (∀ i, 0 ≤ g i ∧ g i ≤ 100) ∧ (∀ i, i < 4 → 1 ≤ p i ∧ p i ≤ 3)
def I_price (p p2 : Nat → Int) : Prop := p2 = p ∧ ∀ i, 0 ≤ p i ∧ p i ≤ 99
def I_ints (n : Nat) (iron rule iron2 rule2 fp fp2 : Int) : Prop := (iron2 = iron ∧ rule2 = rule ∧ fp2 = fp) ∧ 0 ≤ iron ∧ iron ≤ 5000 + 10 * (n : Int) ∧ 0 ≤ rule ∧ rule ≤ 1
/-- a log's changes -/
def Hist (cn state : Int) (to dy kn ch kf : Nat → Int) : Prop :=
  (to 0 = 0 ∧ dy 0 = ch 0 ∧ kn 0 = kf 0 ∧ 0 ≤ ch 0) ∧
  ((state = 0 ∧ cn = 1 ∧ ch 1 = -1 ∧ ch 2 = -1 ∧ ch 3 = -1 ∧ ch 4 = -1) ∨
   (state = 1 ∧ cn = 2 ∧ (to 1 = 1 ∧ dy 1 = ch 1 ∧ kn 1 = kf 1 ∧ 0 ≤ ch 1) ∧ ch 2 = -1 ∧ ch 3 = -1 ∧ ch 4 = -1) ∨
   (state = 2 ∧ cn = 3 ∧ (to 1 = 1 ∧ dy 1 = ch 1 ∧ kn 1 = kf 1 ∧ 0 ≤ ch 1) ∧ (to 2 = 2 ∧ dy 2 = ch 2 ∧ kn 2 = kf 2 ∧ 0 ≤ ch 2) ∧ ch 3 = -1 ∧ ch 4 = -1) ∨
   (state = 3 ∧ cn = 2 ∧ (to 1 = 3 ∧ dy 1 = ch 3 ∧ kn 1 = kf 3 ∧ 0 ≤ ch 3) ∧ ch 1 = -1 ∧ ch 2 = -1 ∧ ch 4 = -1) ∨
   (state = 4 ∧ cn = 2 ∧ (to 1 = 4 ∧ dy 1 = ch 4 ∧ kn 1 = kf 4 ∧ 0 ≤ ch 4) ∧ ch 1 = -1 ∧ ch 2 = -1 ∧ ch 3 = -1))
/-- what never changes of a log behind its fall, but its numbers in the register -/
def LogA (g rg : Nat → Int) (sort units wide day brand fault : Int) (reg : Nat → Int) (s1 s2 : Int) : Prop :=
  (g 0 = sort ∧ g 1 = units ∧ g 2 = wide ∧ g 3 = brand ∧ g 4 = fault ∧ g 6 = day ∧ g 14 = s1 ∧ g 15 = s2) ∧ (∀ k, k < 5 → rg k = reg k ∧ 0 ≤ rg k ∧ rg k ≤ 65535) ∧ (0 ≤ s1 ∧ s1 < 65537 ∧ 0 ≤ s2 ∧ s2 < 65537) ∧ (0 ≤ sort ∧ sort ≤ 3 ∧ 2 ≤ units ∧ units ≤ 6 ∧ 1 ≤ wide ∧ wide ≤ 32 ∧ 0 ≤ brand ∧ brand ≤ 9 ∧ -1 ≤ fault ∧ fault < wide ∧ 0 ≤ day ∧ day ≤ 3999)
/-- what changes as days go by -/
def LogB (g to dy kn : Nat → Int) (cell came state : Int) (ch kf : Nat → Int) : Prop :=
  (g 5 = cell ∧ g 7 = came ∧ g 8 = state) ∧ Hist (g 9) state to dy kn ch kf ∧ (0 ≤ cell ∧ cell ≤ 63 ∧ 0 ≤ came ∧ came ≤ 3999) ∧ ∀ k, k < 5 → -1 ≤ ch k ∧ ch k ≤ 3999 ∧ 0 ≤ kf k ∧ kf k ≤ 4010
def I_logA (lc : Int) (G : Nat → Nat → Int) (RG : Nat → Nat → Int) (sort units wide day brand fault reg s1 s2 : Nat → Int) : Prop :=
  ∀ i : Nat, (i : Int) < lc → LogA (G i) (RG i) (sort i) (units i) (wide i) (day i) (brand i) (fault i) (fun k => reg (5 * i + k)) (s1 i) (s2 i)
def I_logB (lc : Int) (G TO DY KN : Nat → Nat → Int) (cell came state ch kf : Nat → Int) : Prop :=
  ∀ i : Nat, (i : Int) < lc → LogB (G i) (TO i) (DY i) (KN i) (cell i) (came i) (state i) (fun k => ch (5 * i + k)) (fun k => kf (5 * i + k))
def I_live (lc lc2 : Int) (f77 a4 a5 : Nat → Int) : Prop := lc2 = lc ∧ (0 ≤ lc ∧ lc ≤ 300) ∧ (∀ i : Nat, (i : Int) < lc → f77 i ≠ 0 ∧ a4 i ≠ 0) ∧ ∀ i : Nat, lc ≤ (i : Int) → a4 i = 0 ∧ a5 i = 0
/-- how many of n logs lie in a cell -/
def lies (state cell : Nat → Int) (c : Int) : Nat → Int
  | 0 => 0
  | n + 1 => lies state cell c n + (if state n = 0 ∧ cell n = c then 1 else 0)
def I_lying (lc : Int) (ly state cell : Nat → Int) : Prop := ∀ c : Nat, c < 64 → ly c = lies state cell (c : Int) lc.toNat
def I_ways (wc wc2 : Int) (W : Nat → Nat → Int) (f78 a10 k2 f2 t2 l2 d2 : Nat → Int) : Prop :=
  (wc2 = wc ∧ 0 ≤ wc ∧ wc ≤ 40) ∧ (∀ i : Nat, (i : Int) < wc → (f78 i ≠ 0 ∧ a10 i ≠ 0) ∧ (W i 0 = k2 i ∧ W i 1 = f2 i ∧ W i 2 = t2 i ∧ W i 3 = l2 i ∧ W i 4 = d2 i) ∧ (0 ≤ k2 i ∧ k2 i ≤ 4 ∧ 0 ≤ f2 i ∧ f2 i ≤ 63 ∧ 0 ≤ t2 i ∧ t2 i ≤ 63 ∧ 0 ≤ l2 i ∧ l2 i ≤ 1 ∧ -1 ≤ d2 i ∧ d2 i ≤ 3999)) ∧ ∀ i : Nat, wc ≤ (i : Int) → a10 i = 0 ∧ l2 i = 0
def I_crews (cc cc2 lc today : Int) (C : Nat → Nat → Int) (f79 a1 b2 e2 o2 p2 l2 : Nat → Int) : Prop :=
  (cc2 = cc ∧ 0 ≤ cc ∧ cc ≤ 20) ∧ (∀ i : Nat, (i : Int) < cc → (f79 i ≠ 0 ∧ a1 i ≠ 0) ∧ (C i 0 = b2 i ∧ C i 1 = e2 i ∧ C i 2 = o2 i ∧ C i 3 = p2 i ∧ C i 4 = l2 i) ∧ (0 ≤ b2 i ∧ b2 i ≤ 9 ∧ 0 ≤ e2 i ∧ e2 i ≤ 3000000 * lc ∧ 0 ≤ o2 i ∧ o2 i ≤ 10000 * (today + 1) ∧ 0 ≤ l2 i ∧ l2 i ≤ 1)) ∧ ∀ i : Nat, cc ≤ (i : Int) → a1 i = 0 ∧ e2 i = 0 ∧ o2 i = 0 ∧ p2 i = 0 ∧ l2 i = 0
def I_dbl (dc dc2 lc : Int) (a b c a2 b2 c2 : Nat → Int) : Prop := (dc2 = dc ∧ 0 ≤ dc ∧ dc ≤ 60) ∧ (a2 = a ∧ b2 = b ∧ c2 = c) ∧ (∀ i, 0 ≤ a i ∧ a i ≤ 4) ∧ (∀ i : Nat, (i : Int) < dc → 0 ≤ b i ∧ b i < lc) ∧ ∀ i, 0 ≤ c i ∧ c i ≤ 999
def I_tape (sz sz2 : Int) (b b2 : Nat → Int) : Prop := (sz2 = sz ∧ 0 ≤ sz ∧ sz ≤ 300) ∧ ∀ i, 0 ≤ b i ∧ b i ≤ 255 ∧ b2 i = if b i < 128 then b i else b i - 256
/-- a statement of a text: verb and object against the reference's sort and number -/
def Stm (vb ob so no : Int) : Prop := (vb = 0 ∧ 0 ≤ ob ∧ ob ≤ 2 ∧ so = ob) ∨ (1 ≤ vb ∧ vb ≤ 3 ∧ so = vb + 2 ∧ no = ob ∧ 0 ≤ ob ∧ ob ≤ 9999)
def Trm (ng wd rl vl n2 w2 r2 v2 : Int) : Prop := (n2 = ng ∧ w2 = wd ∧ r2 = rl ∧ v2 = vl) ∧ 0 ≤ ng ∧ ng ≤ 1 ∧ 0 ≤ wd ∧ wd ≤ 12 ∧ 0 ≤ rl ∧ rl ≤ 2 ∧ 0 ≤ vl ∧ vl ≤ 9999
def I_law (tx tx2 : Int) (bg ln vb ob tm ng wd rl vl bg2 ln2 so no tm2 ng2 wd2 rl2 vl2 : Nat → Int) : Prop :=
  (tx2 = tx ∧ 0 ≤ tx ∧ tx ≤ 20) ∧ ∀ t : Nat, (t : Int) < tx → (bg2 t = bg t ∧ ln2 t = ln t ∧ 0 ≤ bg t ∧ bg t ≤ 3999 ∧ 0 ≤ ln t ∧ ln t ≤ 12) ∧ ∀ k : Nat, (k : Int) < ln t → (Stm (vb (12 * t + k)) (ob (12 * t + k)) (so (12 * t + k)) (no (12 * t + k)) ∧ tm2 (12 * t + k) = tm (12 * t + k) ∧ 1 ≤ tm (12 * t + k) ∧ tm (12 * t + k) ≤ 5) ∧ ∀ q : Nat, (q : Int) < tm (12 * t + k) → Trm (ng (5 * (12 * t + k) + q)) (wd (5 * (12 * t + k) + q)) (rl (5 * (12 * t + k) + q)) (vl (5 * (12 * t + k) + q)) (ng2 (5 * (12 * t + k) + q)) (wd2 (5 * (12 * t + k) + q)) (rl2 (5 * (12 * t + k) + q)) (vl2 (5 * (12 * t + k) + q))
def I_ord (mn mn2 sk sk2 : Int) (t u l p s d t2 u2 l2 p2 s2 d2 : Nat → Int) : Prop :=
  (mn2 = mn ∧ 0 ≤ mn ∧ mn ≤ 30 ∧ sk2 = sk) ∧ (t2 = t ∧ u2 = u ∧ l2 = l ∧ p2 = p ∧ s2 = s ∧ d2 = d) ∧ ∀ i : Nat, (i : Int) < mn → 1 ≤ t i ∧ t i ≤ 12 ∧ 2 ≤ u i ∧ u i ≤ 6 ∧ 0 ≤ l i ∧ l i ≤ 99 ∧ 1 ≤ p i ∧ p i ≤ 99 ∧ 0 ≤ s i ∧ s i ≤ 3999 ∧ -1 ≤ d i ∧ d i ≤ 3999
def I_spur (n n2 : Int) (a b c r a2 b2 c2 r2 sa sb sc : Nat → Int) : Prop :=
  (n2 = n ∧ 0 ≤ n ∧ n ≤ 9) ∧ (a2 = a ∧ b2 = b ∧ c2 = c ∧ r2 = r) ∧ (∀ i : Nat, (i : Int) < n → 1 ≤ a i ∧ a i < 2147483648 ∧ 1 ≤ b i ∧ b i ≤ 50 ∧ 0 ≤ c i ∧ c i ≤ 999) ∧ (∀ i, 0 ≤ r i ∧ r i < 2147483648) ∧ sa 0 = 0 ∧ sb 0 = 0 ∧ sc 0 = 0
def I_cuts (told told2 : Int) (cu old yg : Nat → Int) : Prop := (told2 = told ∧ 0 ≤ told ∧ told ≤ 1) ∧ ∀ p : Nat, p < 8 → cu (2 * p) = old p ∧ cu (2 * p + 1) = yg p
def I_cru (l f e h l2 f2 e2 h2 : Nat → Int) : Prop := (l2 = l ∧ f2 = f ∧ e2 = e ∧ h2 = h) ∧ (∀ i, i < 4 → -1 ≤ l i ∧ l i ≤ 40) ∧ (∀ i, 0 ≤ f i ∧ f i ≤ 1) ∧ (∀ i, -2000000 ≤ e i ∧ e i ≤ 2000000) ∧ ∀ i, 0 ≤ h i ∧ h i ≤ 1
def I_kf (kf : Nat → Int) : Prop := ∀ i, 0 ≤ kf i ∧ kf i ≤ 4010
theorem I_kf_up {kf : Nat → Int} {i : Nat} {v : Int} (h : I_kf kf) (hv : 0 ≤ v ∧ v ≤ 4010) : I_kf (up kf i v) := by
  intro j
  unfold up
  split
  · exact hv
  · exact h j
def I_tn (f : Nat → Int) : Prop := ∀ i, 0 ≤ f i ∧ f i ≤ 1
def Inv (n : Nat) (σ : St) : Prop :=
  I_sky (σ 7 0) (σ 64 0) (σ 65 0) (σ 12 0 1) (σ 12 0 8) (σ 88 0) (σ 89 0) (σ 90 0) (σ 91 0) ∧
  I_land (σ 28 0) (σ 29 0) (σ 30 0) (σ 32 0) (σ 33 0) (σ 3 0 6) (σ 83 0) (σ 84 0) (σ 85 0) (σ 86 0) (σ 87 0) (σ 12 0 7) (σ 11 0 4) ∧
  I_price (σ 20 0) (σ 92 0) ∧
  I_ints n (σ 11 0 7) (σ 11 0 12) (σ 12 0 59) (σ 12 0 66) (σ 8 0 12) (σ 12 0 46) ∧
  I_logA (σ 11 0 4) (σ 4) (σ 38) (σ 96 0) (σ 97 0) (σ 98 0) (σ 99 0) (σ 100 0) (σ 101 0) (σ 106 0) (σ 107 0) (σ 108 0) ∧
  I_logB (σ 11 0 4) (σ 4) (σ 35) (σ 36) (σ 37) (σ 95 0) (σ 103 0) (σ 102 0) (σ 104 0) (σ 105 0) ∧
  I_live (σ 11 0 4) (σ 12 0 17) (σ 77 0) (σ 50 4) (σ 50 5) ∧
  I_lying (σ 11 0 4) (σ 31 0) (σ 102 0) (σ 95 0) ∧
  I_ways (σ 11 0 6) (σ 12 0 53) (σ 10) (σ 78 0) (σ 50 10) (σ 120 0) (σ 121 0) (σ 122 0) (σ 123 0) (σ 124 0) ∧
  I_crews (σ 11 0 11) (σ 12 0 60) (σ 11 0 4) (σ 7 0 3) (σ 1) (σ 79 0) (σ 50 1) (σ 125 0) (σ 126 0) (σ 127 0) (σ 128 0) (σ 129 0) ∧
  I_dbl (σ 11 0 16) (σ 12 0 67) (σ 11 0 4) (σ 80 0) (σ 81 0) (σ 82 0) (σ 130 0) (σ 131 0) (σ 132 0) ∧
  I_tape (σ 9 0 1) (σ 12 0 44) (σ 76 0) (σ 118 0) ∧
  I_law (σ 8 0 10) (σ 12 0 33) (σ 66 0) (σ 67 0) (σ 68 0) (σ 69 0) (σ 70 0) (σ 71 0) (σ 72 0) (σ 73 0) (σ 74 0) (σ 109 0) (σ 110 0) (σ 111 0) (σ 112 0) (σ 113 0) (σ 114 0) (σ 115 0) (σ 116 0) (σ 117 0) ∧
  I_ord (σ 6 0 6) (σ 12 0 71) (σ 6 0 7) (σ 12 0 78) (σ 55 0) (σ 56 0) (σ 57 0) (σ 58 0) (σ 59 0) (σ 60 0) (σ 133 0) (σ 134 0) (σ 135 0) (σ 136 0) (σ 137 0) (σ 138 0) ∧
  I_spur (σ 5 0 3) (σ 12 0 82) (σ 39 0) (σ 40 0) (σ 41 0) (σ 42 0) (σ 142 0) (σ 143 0) (σ 144 0) (σ 145 0) (σ 43 0) (σ 44 0) (σ 45 0) ∧
  I_cuts (σ 5 0 16) (σ 12 0 93) (σ 54 0) (σ 150 0) (σ 151 0) ∧
  I_cru (σ 24 0) (σ 25 0) (σ 26 0) (σ 27 0) (σ 152 0) (σ 153 0) (σ 154 0) (σ 155 0) ∧
  I_kf (σ 105 0) ∧
  I_tn (σ 114 0)
