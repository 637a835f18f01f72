/-! the world: cells by kind and number, what they hold as whole numbers -/
theorem st_same {σ : St} {k j i : Nat} {v : Int} : st σ k j i v k j = up (σ k j) i v := if_pos ⟨rfl, rfl⟩
theorem st_ne {σ : St} {k j i k' j' : Nat} {v : Int} (h : ¬ (k' = k ∧ j' = j)) : st σ k j i v k' j' = σ k' j' := if_neg h
def rv (b : Bool) (a : Nat) : Value := va_rf (if b = true then some a else none)
theorem rv_t {b : Bool} {a : Nat} (h : b = true) : rv b a = .ref a := by subst h; rfl
abbrev tyl (ct : Nat → ClassId) : List (ClassId × FieldType) := [(ct 0, .int), (ct 1, .boolean), (ct 2, .byte), (ct 3, .object RX4), (ct 4, .object RX10), (ct 5, .object RX1), (ct 6, .array .int), (ct 7, .long)]
def arrL : List (Nat × Nat) := [(0, 7), (0, 11), (0, 11), (0, 5), (0, 4), (1, 4), (0, 160), (1, 160), (0, 64), (0, 64), (0, 1024), (0, 64), (0, 4), (0, 4), (0, 64), (0, 4), (0, 4), (0, 4), (0, 5), (0, 9), (0, 9), (0, 9), (0, 4), (0, 512), (0, 512), (0, 512), (6, 4), (0, 512), (0, 512), (0, 4), (0, 0), (0, 4), (6, 9), (0, 455), (0, 16), (0, 30), (0, 30), (0, 30), (0, 30), (0, 30), (0, 30), (0, 35), (0, 35), (0, 35), (0, 200), (0, 600), (0, 20), (0, 20), (0, 240), (0, 240), (0, 240), (1, 1200), (0, 1200), (0, 1200), (0, 1200), (0, 13), (0, 300), (3, 300), (4, 40), (5, 20), (0, 60), (0, 60), (0, 60), (0, 64), (0, 64), (0, 1024), (0, 4), (0, 4), (0, 200), (0, 200), (0, 200), (0, 200), (0, 7), (0, 8), (0, 11), (0, 300), (0, 300), (0, 300), (0, 300), (0, 300), (0, 300), (0, 300), (0, 300), (0, 300), (0, 1500), (0, 1500), (0, 1500), (0, 300), (0, 300), (0, 20), (0, 21), (0, 252), (0, 252), (0, 252), (1, 1260), (0, 1260), (0, 1260), (0, 1260), (2, 300), (0, 13), (0, 40), (0, 40), (0, 40), (1, 40), (0, 40), (0, 20), (0, 20), (0, 20), (0, 20), (1, 20), (0, 60), (0, 60), (0, 60), (0, 30), (0, 30), (0, 30), (0, 30), (0, 30), (0, 30), (0, 40), (0, 40), (0, 64), (0, 9), (0, 9), (0, 9), (0, 4), (0, 2560), (0, 512), (0, 512), (0, 19773), (0, 8), (0, 8), (0, 4), (1, 4), (0, 160), (1, 160)]
def pcell (ct : Nat → ClassId) (ad : Nat → Nat → Nat) (k j : Nat) (φ : Nat → Bool) (f : Nat → Int) : va_E := match k with
  | 0 => .inr (0, [rv (φ 0) (ad 20 j), rv (φ 1) (ad 21 j), rv (φ 2) (ad 22 j), rv (φ 3) (ad 23 j), .int (iv (f 4))])
  | 1 => .inr (1, [.int (iv (f 0)), .int (iv (f 1)), .int (iv (f 2)), .int (iv (f 3)), .int (iv (f 4))])
  | 2 => .inr (2, [rv (φ 0) (ad 24 j), rv (φ 1) (ad 25 j), rv (φ 2) (ad 26 j), rv (φ 3) (ad 27 j)])
  | 3 => .inr (3, [rv (φ 0) (ad 28 j), rv (φ 1) (ad 29 j), rv (φ 2) (ad 30 j), rv (φ 3) (ad 31 j), rv (φ 4) (ad 32 j), rv (φ 5) (ad 33 j), .int (iv (f 6)), rv (φ 7) (ad 34 j)])
  | 4 => .inr (4, [.int (iv (f 0)), .int (iv (f 1)), .int (iv (f 2)), .int (iv (f 3)), .int (iv (f 4)), .int (iv (f 5)), .int (iv (f 6)), .int (iv (f 7)), .int (iv (f 8)), .int (iv (f 9)), rv (φ 10) (ad 35 j), rv (φ 11) (ad 36 j), rv (φ 12) (ad 37 j), rv (φ 13) (ad 38 j), .int (iv (f 14)), .int (iv (f 15))])
  | 5 => .inr (5, [rv (φ 0) (ad 39 j), rv (φ 1) (ad 40 j), rv (φ 2) (ad 41 j), .int (iv (f 3)), rv (φ 4) (ad 42 j), rv (φ 5) (ad 43 j), rv (φ 6) (ad 44 j), rv (φ 7) (ad 45 j), rv (φ 8) (ad 46 j), rv (φ 9) (ad 48 j), rv (φ 10) (ad 49 j), rv (φ 11) (ad 51 j), rv (φ 12) (ad 52 j), .int (iv (f 13)), .int (iv (f 14)), rv (φ 15) (ad 54 j), .int (iv (f 16))])
  | 6 => .inr (6, [rv (φ 0) (ad 55 j), rv (φ 1) (ad 56 j), rv (φ 2) (ad 57 j), rv (φ 3) (ad 58 j), rv (φ 4) (ad 59 j), rv (φ 5) (ad 60 j), .int (iv (f 6)), .int (iv (f 7)), rv (φ 8) (ad 61 j), rv (φ 9) (ad 62 j), rv (φ 10) (ad 63 j)])
  | 7 => .inr (7, [rv (φ 0) (ad 64 j), rv (φ 1) (ad 65 j), .int (iv (f 2)), .int (iv (f 3)), .int (iv (f 4))])
  | 8 => .inr (8, [rv (φ 0) (ad 66 j), rv (φ 1) (ad 67 j), rv (φ 2) (ad 68 j), rv (φ 3) (ad 69 j), rv (φ 4) (ad 70 j), rv (φ 5) (ad 71 j), rv (φ 6) (ad 72 j), rv (φ 7) (ad 73 j), rv (φ 8) (ad 74 j), rv (φ 9) (ad 75 j), .int (iv (f 10)), .int (iv (f 11)), .int (iv (f 12))])
  | 9 => .inr (9, [rv (φ 0) (ad 76 j), .int (iv (f 1)), .int (iv (f 2)), .int (iv (f 3)), .int (iv (f 4))])
  | 10 => .inr (10, [.int (iv (f 0)), .int (iv (f 1)), .int (iv (f 2)), .int (iv (f 3)), .int (iv (f 4))])
  | 11 => .inr (11, [rv (φ 0) (ad 7 j), rv (φ 1) (ad 3 j), rv (φ 2) (ad 0 j), rv (φ 3) (ad 77 j), .int (iv (f 4)), rv (φ 5) (ad 78 j), .int (iv (f 6)), .int (iv (f 7)), rv (φ 8) (ad 9 j), rv (φ 9) (ad 8 j), rv (φ 10) (ad 79 j), .int (iv (f 11)), .int (iv (f 12)), rv (φ 13) (ad 80 j), rv (φ 14) (ad 81 j), rv (φ 15) (ad 82 j), .int (iv (f 16)), rv (φ 17) (ad 6 j), rv (φ 18) (ad 5 j), rv (φ 19) (ad 2 j)])
  | 12 => .inr (12, [.int (iv (f 0)), .int (iv (f 1)), rv (φ 2) (ad 83 j), rv (φ 3) (ad 84 j), rv (φ 4) (ad 85 j), rv (φ 5) (ad 86 j), rv (φ 6) (ad 87 j), .int (iv (f 7)), .int (iv (f 8)), rv (φ 9) (ad 88 j), rv (φ 10) (ad 89 j), rv (φ 11) (ad 90 j), rv (φ 12) (ad 91 j), rv (φ 13) (ad 92 j), rv (φ 14) (ad 93 j), .int (iv (f 15)), rv (φ 16) (ad 94 j), .int (iv (f 17)), rv (φ 18) (ad 95 j), rv (φ 19) (ad 96 j), rv (φ 20) (ad 97 j), rv (φ 21) (ad 98 j), rv (φ 22) (ad 99 j), rv (φ 23) (ad 100 j), rv (φ 24) (ad 101 j), rv (φ 25) (ad 102 j), rv (φ 26) (ad 103 j), rv (φ 27) (ad 104 j), rv (φ 28) (ad 105 j), rv (φ 29) (ad 106 j), rv (φ 30) (ad 107 j), rv (φ 31) (ad 108 j), .int (iv (f 32)), .int (iv (f 33)), rv (φ 34) (ad 109 j), rv (φ 35) (ad 110 j), rv (φ 36) (ad 111 j), rv (φ 37) (ad 112 j), rv (φ 38) (ad 113 j), rv (φ 39) (ad 114 j), rv (φ 40) (ad 115 j), rv (φ 41) (ad 116 j), rv (φ 42) (ad 117 j), rv (φ 43) (ad 118 j), .int (iv (f 44)), .int (iv (f 45)), .int (iv (f 46)), .int (iv (f 47)), .int (iv (f 48)), .int (iv (f 49)), .int (iv (f 50)), .int (iv (f 51)), rv (φ 52) (ad 119 j), .int (iv (f 53)), rv (φ 54) (ad 120 j), rv (φ 55) (ad 121 j), rv (φ 56) (ad 122 j), rv (φ 57) (ad 123 j), rv (φ 58) (ad 124 j), .int (iv (f 59)), .int (iv (f 60)), rv (φ 61) (ad 125 j), rv (φ 62) (ad 126 j), rv (φ 63) (ad 127 j), rv (φ 64) (ad 128 j), rv (φ 65) (ad 129 j), .int (iv (f 66)), .int (iv (f 67)), rv (φ 68) (ad 130 j), rv (φ 69) (ad 131 j), rv (φ 70) (ad 132 j), .int (iv (f 71)), rv (φ 72) (ad 133 j), rv (φ 73) (ad 134 j), rv (φ 74) (ad 135 j), rv (φ 75) (ad 136 j), rv (φ 76) (ad 137 j), rv (φ 77) (ad 138 j), .int (iv (f 78)), rv (φ 79) (ad 139 j), rv (φ 80) (ad 140 j), rv (φ 81) (ad 141 j), .int (iv (f 82)), rv (φ 83) (ad 142 j), rv (φ 84) (ad 143 j), rv (φ 85) (ad 144 j), rv (φ 86) (ad 145 j), rv (φ 87) (ad 146 j), rv (φ 88) (ad 147 j), rv (φ 89) (ad 148 j), rv (φ 90) (ad 149 j), rv (φ 91) (ad 150 j), rv (φ 92) (ad 151 j), .int (iv (f 93)), .int (iv (f 94)), .int (iv (f 95)), .int (iv (f 96)), rv (φ 97) (ad 152 j), rv (φ 98) (ad 153 j), rv (φ 99) (ad 154 j), rv (φ 100) (ad 155 j), .int (iv (f 101)), .int (iv (f 102))])
  | 46 => .inl (ct 6, 4, .inr (.inr (.inr (.inr (fun i => if φ i = true then some (ad 47 i) else none)))))
  | 52 => .inl (ct 6, 9, .inr (.inr (.inr (.inr (fun i => if φ i = true then some (ad 53 i) else none)))))
  | 77 => .inl (ct 3, 300, .inr (.inr (.inr (.inr (fun i => if f i = 0 then none else some (ad 4 i))))))
  | 78 => .inl (ct 4, 40, .inr (.inr (.inr (.inr (fun i => if f i = 0 then none else some (ad 10 i))))))
  | 79 => .inl (ct 5, 20, .inr (.inr (.inr (.inr (fun i => if f i = 0 then none else some (ad 1 i))))))
  | 156 => .inl (ct 7, 1, .inr (.inl (fun i => (iv (f i)).toInt64)))
  | k => .inl (ct (arrL.getD (k - 20) (0, 0)).1, (arrL.getD (k - 20) (0, 0)).2, .inl (fun i => iv (f i)))
def statk (k : Nat) : Bool := decide (k < 13 ∨ (20 ≤ k ∧ k ≤ 155 ∧ k ≠ 50)) && !([1, 4, 10, 35, 36, 37, 38, 47, 53] : List Nat).contains k
def FullS (L : List (Nat × Nat)) (φ : Nat → Nat → Nat → Bool) : Prop := (∀ k, statk k = true → (k, 0) ∈ L ∧ ∀ i, φ k 0 i = true) ∧ (∀ j, j < 4 → (47, j) ∈ L) ∧ (∀ j, j < 9 → (53, j) ∈ L) ∧ (∀ j, ((77, j) ∈ L ∨ (78, j) ∈ L ∨ (79, j) ∈ L) → j = 0) ∧ ∀ j, (50, j) ∉ L
def Dyn (L : List (Nat × Nat)) (φ : Nat → Nat → Nat → Bool) (σ : St) : Prop :=
  (∀ j, σ 50 4 j ≠ 0 → (4, j) ∈ L ∧ (35, j) ∈ L ∧ (36, j) ∈ L ∧ (37, j) ∈ L ∧ (38, j) ∈ L ∧ ∀ i, φ 4 j i = true) ∧ (∀ j, σ 50 10 j ≠ 0 → (10, j) ∈ L) ∧ (∀ j, σ 50 1 j ≠ 0 → (1, j) ∈ L) ∧ (∀ i, σ 77 0 i ≠ 0 → σ 50 4 i ≠ 0) ∧ (∀ i, σ 78 0 i ≠ 0 → σ 50 10 i ≠ 0) ∧ (∀ i, σ 79 0 i ≠ 0 → σ 50 1 i ≠ 0) ∧ (∀ j, (10, j) ∈ L → σ 50 10 j ≠ 0) ∧ (∀ j, (1, j) ∈ L → σ 50 1 j ≠ 0) ∧ (∀ j, ((4, j) ∈ L ∨ (35, j) ∈ L ∨ (36, j) ∈ L ∨ (37, j) ∈ L ∨ (38, j) ∈ L) → σ 50 5 j ≠ 0)
def plain (k : Nat) : Bool := !([50, 77, 78, 79] : List Nat).contains k
theorem Dyn_st {L : List (Nat × Nat)} {φ : Nat → Nat → Nat → Bool} {σ : St} (h : Dyn L φ σ) {k j i : Nat} {v : Int} (hk : plain k = true) : Dyn L φ (st σ k j i v) := by
  have h1 : ∀ q, plain q = false → ∀ a, st σ k j i v q a = σ q a := fun q hq a => st_ne (fun e => by rw [e.1, hk] at hq; cases hq)
  unfold Dyn
  simp only [h1 77 rfl, h1 78 rfl, h1 79 rfl, h1 50 rfl]
  exact h
def pl (ct : Nat → ClassId) (ad : Nat → Nat → Nat) (φ : Nat → Nat → Nat → Bool) (σ : St) (L : List (Nat × Nat)) : va_W := L.map fun q => (ad q.1 q.2, pcell ct ad q.1 q.2 (φ q.1 q.2) (σ q.1 q.2))
theorem pl_at {ct : Nat → ClassId} {ad : Nat → Nat → Nat} {φ : Nat → Nat → Nat → Bool} {σ : St} {L : List (Nat × Nat)} {n k j : Nat} (h : L[n]? = some (k, j)) : (pl ct ad φ σ L)[n]? = some (ad k j, pcell ct ad k j (φ k j) (σ k j)) := by
  simp only [pl, List.getElem?_map, h, Option.map_some]
theorem pl_set {ct : Nat → ClassId} {ad : Nat → Nat → Nat} {φ : Nat → Nat → Nat → Bool} {σ : St} {L : List (Nat × Nat)} {A : Nat → Prop} {n k j i : Nat} {v : Int} {E : va_E} (hD : va_D A (pl ct ad φ σ L)) (hn : L[n]? = some (k, j)) (hE : pcell ct ad k j (φ k j) (up (σ k j) i v) = E) : (pl ct ad φ σ L).set n (ad k j, E) = pl ct ad φ (st σ k j i v) L := by
  apply List.ext_getElem?
  intro m
  by_cases hmn : n = m
  · subst hmn
    have hlt : n < (pl ct ad φ σ L).length := (List.getElem?_eq_some_iff.mp (pl_at (ct := ct) (ad := ad) (φ := φ) (σ := σ) hn)).1
    rw [List.getElem?_set_self hlt, pl_at hn, st_same, hE]
  · rw [List.getElem?_set_ne hmn]
    cases hq : L[m]? with
    | none => simp only [pl, List.getElem?_map, hq, Option.map_none]
    | some q =>
      obtain ⟨k', j'⟩ := q
      rw [pl_at hq, pl_at hq, st_ne (fun e => hmn (hD.1 n m _ _ (pl_at hn) (pl_at hq) (by rw [e.1, e.2])))]
def AA (N0 : Nat) : Nat → Prop := fun q => N0 ≤ q
def Rel (D : va_G) (ct : Nat → ClassId) (ad : Nat → Nat → Nat) (L : List (Nat × Nat)) (φ : Nat → Nat → Nat → Bool) (N0 : Nat) (σ : St) (H : Heap) : Prop := va_P D vwCl (pl ct ad φ σ L) H ∧ va_D (AA N0) (pl ct ad φ σ L)
def Hs (D : va_G) (ct : Nat → ClassId) (ad : Nat → Nat → Nat) (L : List (Nat × Nat)) (φ : Nat → Nat → Nat → Bool) (N0 : Nat) (H0 : Heap) (σ : St) (H : Heap) (locs : List Loc) : Prop := Rel D ct ad L φ N0 σ H ∧ va_S (AA N0) H0 H locs ∧ Dyn L φ σ
def fvv (ct : Nat → ClassId) : Value := if ct 1002 = 0 then .null else .ref (ct 1003)
theorem fvv_n {ct : Nat → ClassId} (h : ct 1002 = 0) : fvv ct = .null := if_pos h
theorem fvv_r {ct : Nat → ClassId} (h : ¬ ct 1002 = 0) : fvv ct = .ref (ct 1003) := if_neg h
/-- what lies outside and isn't changed: two tables, a static of String's, the constants of text -/
def Tx (ct : Nat → ClassId) (N0 : Nat) (U : State) : Prop :=
  (va_Z RX7 "AT_FIRST" "[I" (.ref (ct 1000)) (AA N0) U U.heap ∧ va_T .int (ct 1000) 3 (fun j => .int (([0, 5, 3] : List Int32).getD j 0)) (AA N0) U U.heap) ∧
  (va_Z RX8 "WITHOUT" "[I" (.ref (ct 1001)) (AA N0) U U.heap ∧ va_T .int (ct 1001) 4 (fun j => .int (([-1, 2, 50, 5] : List Int32).getD j 0)) (AA N0) U U.heap) ∧
  va_Z "java/lang/String" "COMPACT_STRINGS" "Z" (.int (iv 1)) (AA N0) U U.heap ∧
  vk_S 27 strL strB (fun i => ct (2000 + i)) (fun i => ct (3000 + i)) (AA N0) U U.heap ∧ va_Z "jdk/internal/util/Preconditions" "SIOOBE_FORMATTER" "Ljava/util/function/BiFunction;" (fvv ct) (AA N0) U U.heap ∧
  (vk_R "TimberValley$Statutes" 83 "cut carry fire" (ct 2002) U ∧ vk_R "TimberValley$Statutes" 96 "if" (ct 2003) U ∧ vk_R "TimberValley$Statutes" 105 "cell height sort class season day snow water dry far slash crew way" (ct 2005) U ∧ vk_R "TimberValley$Statutes" 119 "bar pay credit rent" (ct 2001) U ∧ vk_R "TimberValley$Statutes" 124 "not" (ct 2004) U ∧ vk_R "TimberValley$Statutes" 136 "and" (ct 2006) U ∧ vk_R "TimberValley$Tape" 48 "<=>;" (ct 2000) U ∧ vk_R "TimberValleyModel" 351 "cell" (ct 2014) U ∧ vk_R "TimberValleyModel" 353 "height" (ct 2015) U ∧ vk_R "TimberValleyModel" 354 "sort" (ct 2016) U ∧ vk_R "TimberValleyModel" 356 "class" (ct 2017) U ∧ vk_R "TimberValleyModel" 358 "season" (ct 2018) U ∧ vk_R "TimberValleyModel" 360 "day" (ct 2019) U ∧ vk_R "TimberValleyModel" 362 "snow" (ct 2020) U ∧ vk_R "TimberValleyModel" 364 "water" (ct 2021) U ∧ vk_R "TimberValleyModel" 366 "dry" (ct 2022) U ∧ vk_R "TimberValleyModel" 368 "far" (ct 2023) U ∧ vk_R "TimberValleyModel" 370 "slash" (ct 2024) U ∧ vk_R "TimberValleyModel" 371 "crew" (ct 2025) U ∧ vk_R "TimberValleyModel" 373 "way" (ct 2026) U ∧ vk_R "TimberValleyModel" 383 "not" (ct 2004) U ∧ vk_R "TimberValleyModel" 397 "and" (ct 2006) U ∧ vk_R "TimberValleyModel" 399 "bar" (ct 2007) U ∧ vk_R "TimberValleyModel" 401 "pay" (ct 2008) U ∧ vk_R "TimberValleyModel" 403 "credit" (ct 2009) U ∧ vk_R "TimberValleyModel" 405 "rent" (ct 2010) U ∧ vk_R "TimberValleyModel" 410 "cut" (ct 2011) U ∧ vk_R "TimberValleyModel" 412 "carry" (ct 2012) U ∧ vk_R "TimberValleyModel" 414 "fire" (ct 2013) U ∧ vk_R "TimberValleyModel" 416 "if" (ct 2003) U)
theorem Tx.go {ct : Nat → ClassId} {N0 : Nat} {s U : State} {H : Heap} {locs : List Loc} (hW : s.WarmedH U.vm) (hU : U.heap = H) (hS : va_S (AA N0) s.heap H locs) (h : Tx ct N0 s) : Tx ct N0 U := by
  obtain ⟨⟨a1, a2⟩, ⟨b1, b2⟩, c1, d1, f1, e1⟩ := h
  have hk : ∀ a : Nat, a < s.heap.size → ¬ AA N0 a → U.heap[a]? = s.heap[a]? := fun a h1 h2 => by rw [hU]; exact hS.2.1 a h1 h2
  have hA := hW.alike
  refine ⟨⟨(va_Z.moved hA a1).kept hk, (va_T.moved hA a2).kept hk⟩, ⟨(va_Z.moved hA b1).kept hk, (va_T.moved hA b2).kept hk⟩, (va_Z.moved hA c1).kept hk, (vk_S.moved hA d1).kept hk, (va_Z.moved hA f1).kept hk, ?_⟩
  obtain ⟨r0, r1, r2, r3, r4, r5, r6, r7, r8, r9, r10, r11, r12, r13, r14, r15, r16, r17, r18, r19, r20, r21, r22, r23, r24, r25, r26, r27, r28, r29⟩ := e1
  exact ⟨vk_R.warm hW r0, vk_R.warm hW r1, vk_R.warm hW r2, vk_R.warm hW r3, vk_R.warm hW r4, vk_R.warm hW r5, vk_R.warm hW r6, vk_R.warm hW r7, vk_R.warm hW r8, vk_R.warm hW r9, vk_R.warm hW r10, vk_R.warm hW r11, vk_R.warm hW r12, vk_R.warm hW r13, vk_R.warm hW r14, vk_R.warm hW r15, vk_R.warm hW r16, vk_R.warm hW r17, vk_R.warm hW r18, vk_R.warm hW r19, vk_R.warm hW r20, vk_R.warm hW r21, vk_R.warm hW r22, vk_R.warm hW r23, vk_R.warm hW r24, vk_R.warm hW r25, vk_R.warm hW r26, vk_R.warm hW r27, vk_R.warm hW r28, vk_R.warm hW r29⟩
theorem Tx.same {ct : Nat → ClassId} {N0 : Nat} {u U : State} (hv : u.vm = U.vm) (hh : U.heap = u.heap) (h : Tx ct N0 u) : Tx ct N0 U := by
  obtain ⟨⟨a1, a2⟩, ⟨b1, b2⟩, c1, d1, f1, e1⟩ := h
  have hA : u.vm.Alike U.vm := by rw [hv]; exact Vm.Alike.refl U.vm
  unfold Tx
  rw [hh]
  refine ⟨⟨va_Z.moved hA a1, va_T.moved hA a2⟩, ⟨va_Z.moved hA b1, va_T.moved hA b2⟩, va_Z.moved hA c1, vk_S.moved hA d1, va_Z.moved hA f1, ?_⟩
  obtain ⟨r0, r1, r2, r3, r4, r5, r6, r7, r8, r9, r10, r11, r12, r13, r14, r15, r16, r17, r18, r19, r20, r21, r22, r23, r24, r25, r26, r27, r28, r29⟩ := e1
  exact ⟨vk_R.same hv.symm r0, vk_R.same hv.symm r1, vk_R.same hv.symm r2, vk_R.same hv.symm r3, vk_R.same hv.symm r4, vk_R.same hv.symm r5, vk_R.same hv.symm r6, vk_R.same hv.symm r7, vk_R.same hv.symm r8, vk_R.same hv.symm r9, vk_R.same hv.symm r10, vk_R.same hv.symm r11, vk_R.same hv.symm r12, vk_R.same hv.symm r13, vk_R.same hv.symm r14, vk_R.same hv.symm r15, vk_R.same hv.symm r16, vk_R.same hv.symm r17, vk_R.same hv.symm r18, vk_R.same hv.symm r19, vk_R.same hv.symm r20, vk_R.same hv.symm r21, vk_R.same hv.symm r22, vk_R.same hv.symm r23, vk_R.same hv.symm r24, vk_R.same hv.symm r25, vk_R.same hv.symm r26, vk_R.same hv.symm r27, vk_R.same hv.symm r28, vk_R.same hv.symm r29⟩
def Kx (D : va_G) (ct : Nat → ClassId) (N0 : Nat) (U : State) : Prop := va_K D vwCl (tyl ct) U ∧ NW U ∧ Tx ct N0 U
/-- what holds all through a method -/
def Cx (p : Program) (s : State) (m : MethodId) (meth : Method) (c : Code) (args : Array Value) (cc : ByteArray) (nL : Nat) (ret : Option FieldType) (own : String) (D : va_G) (ct : Nat → ClassId) (L : List (Nat × Nat)) (φ : Nat → Nat → Nat → Bool) (N0 : Nat) : Prop :=
  p.tables.exec = Jvm.exec ∧ c.code = cc ∧ c.maxLocals = nL ∧ meth.sig.returnType = ret ∧ s.vm.findClass own = some m.cls ∧ meth.locks = false ∧ (∀ w ∈ gw, w.before args s = true) ∧ Kx D ct N0 s ∧ FullS L φ ∧ N0 ≤ s.heap.size
section RW
variable {p : Program} {l : Launch} {e : Env} {R : Room} {s : State} {m : MethodId} {args : Array Value} {below : List Frame} {meth : Method} {c : Code} {H : Heap} {locs : List Loc} {cells slots : Nat} {Q : State → Prop}
variable {cc : ByteArray} {pc : Nat} {ls : Array Slot} {rest : List Value} {D : va_G} {ct : Nat → ClassId} {ad : Nat → Nat → Nat} {L : List (Nat × Nat)} {φ : Nat → Nat → Nat → Bool} {N0 : Nat} {σ : St}
variable {nL : Nat} {ret : Option FieldType} {own : String}
/-- a field is read: its value is v -/
theorem r_get (X : Cx p s m meth c args cc nL ret own D ct L φ N0) {C : String} {T : u_T} {N ci index : Nat} (hin : ∀ w ∈ u_ws C T N, w ∈ gw) (h : Hs D ct ad L φ N0 s.heap σ H locs) {k j : Nat} (hm : (k, j) ∈ L) {fs : List Value} (hp : pcell ct ad k j (φ k j) (σ k j) = .inr (ci, fs)) (hc : vwCl[ci]? = some (C, T, N)) (i : Nat) (hi : i < N) (hlink : Cond.fieldLink own index (T i).1 (T i).2.1 (T i).2.2.1 ∈ gw) {v : Value} (hv : fs[i]? = some v) (hdg : decode cc pc = .ok (.getfield index, 3))
    (kk : W p l e R s m args below meth c H locs cells slots Q (F0 m (pc + 3) ls (v :: rest))) : W p l e R s m args below meth c H locs cells slots Q (F0 m pc ls (.ref (ad k j) :: rest)) := by
  obtain ⟨hx, hb, -, -, hown, -, hts, hK, -, -⟩ := X
  obtain ⟨n, hn⟩ := List.getElem?_of_mem hm
  have he := pl_at (ct := ct) (ad := ad) (φ := φ) (σ := σ) hn
  rw [hp] at he
  exact va_get hx hb hts hin hown hK.1 h.1.1 n he hc i hi (hts _ hlink) (fun _ h9 => h9) hv hdg kk
theorem r_getN (X : Cx p s m meth c args cc nL ret own D ct L φ N0) {C host : String} {T : u_T} {N ci index : Nat} (hin : ∀ w ∈ u_ws C T N, w ∈ gw) (h : Hs D ct ad L φ N0 s.heap σ H locs) {k j : Nat} (hm : (k, j) ∈ L) {fs : List Value} (hp : pcell ct ad k j (φ k j) (σ k j) = .inr (ci, fs)) (hc : vwCl[ci]? = some (C, T, N)) (i : Nat) (hi : i < N) (hlink : Cond.fieldLinkNest own index (T i).1 (T i).2.1 (T i).2.2.1 host ∈ lw_tbl) {v : Value} (hv : fs[i]? = some v) (hdg : decode cc pc = .ok (.getfield index, 3))
    (kk : W p l e R s m args below meth c H locs cells slots Q (F0 m (pc + 3) ls (v :: rest))) : W p l e R s m args below meth c H locs cells slots Q (F0 m pc ls (.ref (ad k j) :: rest)) := by
  obtain ⟨hx, hb, -, -, hown, -, hts, hK, -, -⟩ := X
  obtain ⟨n, hn⟩ := List.getElem?_of_mem hm
  have he := pl_at (ct := ct) (ad := ad) (φ := φ) (σ := σ) hn
  rw [hp] at he
  exact va_getN hx hb hts hin hown hK.1 h.1.1 n he hc i hi (va_Nw.use rfl (hK.2.1 _ hlink rfl)) (fun _ h9 => h9) hv hdg kk
/-- a field of a whole number is written -/
theorem r_put (X : Cx p s m meth c args cc nL ret own D ct L φ N0) {C : String} {T : u_T} {N ci index : Nat} (hin : ∀ w ∈ u_ws C T N, w ∈ gw) (ty0 : Nat → FieldType) (hty : ∀ k, k < N → parseFieldDescriptor (T k).2.2.1 = some (ty0 k)) (hnm : ∀ a, a < N → ∀ b, b < N → a ≠ b → (T a).2.1 ≠ (T b).2.1) (h : Hs D ct ad L φ N0 s.heap σ H locs) {k j : Nat} (hm : (k, j) ∈ L) {fs : List Value} (hp : pcell ct ad k j (φ k j) (σ k j) = .inr (ci, fs)) (hc : vwCl[ci]? = some (C, T, N)) (i : Nat) (hi : i < N) (hlink : Cond.fieldLink own index (T i).1 (T i).2.1 (T i).2.2.1 ∈ gw) (hfin : (T i).2.2.2 = false) {v : Int} (hn9 : narrow (ty0 i) (.int (iv v)) = .int (iv v)) (hfit : fits (ty0 i) (.int (iv v)) = true) (hl : i < fs.length) (hset : pcell ct ad k j (φ k j) (up (σ k j) i v) = .inr (ci, fs.set i (.int (iv v)))) (hpl : plain k = true) (hdg : decode cc pc = .ok (.putfield index, 3))
    (kk : ∀ (H1 : Heap) (locs1 : List Loc), Hs D ct ad L φ N0 s.heap (st σ k j i v) H1 locs1 → W p l e R s m args below meth c H1 locs1 cells slots Q (F0 m (pc + 3) ls rest)) : W p l e R s m args below meth c H locs cells slots Q (F0 m pc ls (.int (iv v) :: .ref (ad k j) :: rest)) := by
  obtain ⟨hx, hb, -, -, hown, -, hts, hK, -, -⟩ := X
  obtain ⟨n, hn⟩ := List.getElem?_of_mem hm
  have he := pl_at (ct := ct) (ad := ad) (φ := φ) (σ := σ) hn
  rw [hp] at he
  refine va_put hx hb hts hin ty0 hty hnm hown hK.1 h.1.1 h.1.2 h.2.1 n he hc i hi (hts _ hlink) (fun _ h9 => h9) hfin (hty i hi) hn9 hfit hl hdg (fun H1 locs1 hP hD hS => ?_)
  rw [pl_set h.1.2 hn hset] at hP hD
  exact kk H1 locs1 ⟨⟨hP, hD⟩, hS, Dyn_st h.2.2 hpl⟩
theorem r_putN (X : Cx p s m meth c args cc nL ret own D ct L φ N0) {C host : String} {T : u_T} {N ci index : Nat} (hin : ∀ w ∈ u_ws C T N, w ∈ gw) (ty0 : Nat → FieldType) (hty : ∀ k, k < N → parseFieldDescriptor (T k).2.2.1 = some (ty0 k)) (hnm : ∀ a, a < N → ∀ b, b < N → a ≠ b → (T a).2.1 ≠ (T b).2.1) (h : Hs D ct ad L φ N0 s.heap σ H locs) {k j : Nat} (hm : (k, j) ∈ L) {fs : List Value} (hp : pcell ct ad k j (φ k j) (σ k j) = .inr (ci, fs)) (hc : vwCl[ci]? = some (C, T, N)) (i : Nat) (hi : i < N) (hlink : Cond.fieldLinkNest own index (T i).1 (T i).2.1 (T i).2.2.1 host ∈ lw_tbl) (hfin : (T i).2.2.2 = false) {v : Int} (hn9 : narrow (ty0 i) (.int (iv v)) = .int (iv v)) (hfit : fits (ty0 i) (.int (iv v)) = true) (hl : i < fs.length) (hset : pcell ct ad k j (φ k j) (up (σ k j) i v) = .inr (ci, fs.set i (.int (iv v)))) (hpl : plain k = true) (hdg : decode cc pc = .ok (.putfield index, 3))
    (kk : ∀ (H1 : Heap) (locs1 : List Loc), Hs D ct ad L φ N0 s.heap (st σ k j i v) H1 locs1 → W p l e R s m args below meth c H1 locs1 cells slots Q (F0 m (pc + 3) ls rest)) : W p l e R s m args below meth c H locs cells slots Q (F0 m pc ls (.int (iv v) :: .ref (ad k j) :: rest)) := by
  obtain ⟨hx, hb, -, -, hown, -, hts, hK, -, -⟩ := X
  obtain ⟨n, hn⟩ := List.getElem?_of_mem hm
  have he := pl_at (ct := ct) (ad := ad) (φ := φ) (σ := σ) hn
  rw [hp] at he
  refine va_putN hx hb hts hin ty0 hty hnm hown hK.1 h.1.1 h.1.2 h.2.1 n he hc i hi (va_Nw.use rfl (hK.2.1 _ hlink rfl)) (fun _ h9 => h9) hfin (hty i hi) hn9 hfit hl hdg (fun H1 locs1 hP hD hS => ?_)
  rw [pl_set h.1.2 hn hset] at hP hD
  exact kk H1 locs1 ⟨⟨hP, hD⟩, hS, Dyn_st h.2.2 hpl⟩
theorem r_iald (X : Cx p s m meth c args cc nL ret own D ct L φ N0) (h : Hs D ct ad L φ N0 s.heap σ H locs) {k j n : Nat} (hm : (k, j) ∈ L) (hp : pcell ct ad k j (φ k j) (σ k j) = .inl (ct 0, n, .inl (fun i => iv (σ k j i)))) (hn9 : n < 2147483648) {x : Int} (h0 : 0 ≤ x) (h1 : x < n) (hdg : decode cc pc = .ok (.iaload, 1))
    (kk : W p l e R s m args below meth c H locs cells slots Q (F0 m (pc + 1) ls (.int (iv (σ k j x.toNat)) :: rest))) : W p l e R s m args below meth c H locs cells slots Q (F0 m pc ls (.int (iv x) :: .ref (ad k j) :: rest)) := by
  obtain ⟨hx, hb, -, -, hown, -, hts, hK, -, -⟩ := X
  obtain ⟨n0, hn⟩ := List.getElem?_of_mem hm
  have he := pl_at (ct := ct) (ad := ad) (φ := φ) (σ := σ) hn
  rw [hp] at he
  refine va_iald hx hb hK.1 h.1.1 n0 0 he rfl (iv_in hn9 h0 h1) hdg ?_
  rw [iv_clamp ⟨by omega, by omega⟩]
  exact kk
theorem r_zald (X : Cx p s m meth c args cc nL ret own D ct L φ N0) (h : Hs D ct ad L φ N0 s.heap σ H locs) {k j n : Nat} (hm : (k, j) ∈ L) (hp : pcell ct ad k j (φ k j) (σ k j) = .inl (ct 1, n, .inl (fun i => iv (σ k j i)))) (hn9 : n < 2147483648) {x : Int} (h0 : 0 ≤ x) (h1 : x < n) (hdg : decode cc pc = .ok (.baload, 1))
    (kk : W p l e R s m args below meth c H locs cells slots Q (F0 m (pc + 1) ls (.int (iv (σ k j x.toNat)) :: rest))) : W p l e R s m args below meth c H locs cells slots Q (F0 m pc ls (.int (iv x) :: .ref (ad k j) :: rest)) := by
  obtain ⟨hx, hb, -, -, hown, -, hts, hK, -, -⟩ := X
  obtain ⟨n0, hn⟩ := List.getElem?_of_mem hm
  have he := pl_at (ct := ct) (ad := ad) (φ := φ) (σ := σ) hn
  rw [hp] at he
  refine va_zald hx hb hK.1 h.1.1 n0 1 he rfl (iv_in hn9 h0 h1) hdg ?_
  rw [iv_clamp ⟨by omega, by omega⟩]
  exact kk
theorem r_bald (X : Cx p s m meth c args cc nL ret own D ct L φ N0) (h : Hs D ct ad L φ N0 s.heap σ H locs) {k j n : Nat} (hm : (k, j) ∈ L) (hp : pcell ct ad k j (φ k j) (σ k j) = .inl (ct 2, n, .inl (fun i => iv (σ k j i)))) (hn9 : n < 2147483648) {x : Int} (h0 : 0 ≤ x) (h1 : x < n) (hdg : decode cc pc = .ok (.baload, 1))
    (kk : W p l e R s m args below meth c H locs cells slots Q (F0 m (pc + 1) ls (.int (iv (σ k j x.toNat)) :: rest))) : W p l e R s m args below meth c H locs cells slots Q (F0 m pc ls (.int (iv x) :: .ref (ad k j) :: rest)) := by
  obtain ⟨hx, hb, -, -, hown, -, hts, hK, -, -⟩ := X
  obtain ⟨n0, hn⟩ := List.getElem?_of_mem hm
  have he := pl_at (ct := ct) (ad := ad) (φ := φ) (σ := σ) hn
  rw [hp] at he
  refine va_bald hx hb hK.1 h.1.1 n0 2 he rfl (iv_in hn9 h0 h1) hdg ?_
  rw [iv_clamp ⟨by omega, by omega⟩]
  exact kk
theorem r_iast (X : Cx p s m meth c args cc nL ret own D ct L φ N0) (h : Hs D ct ad L φ N0 s.heap σ H locs) {k j n : Nat} (hm : (k, j) ∈ L) (hp : ∀ f : Nat → Int, pcell ct ad k j (φ k j) f = .inl (ct 0, n, .inl (fun i => iv (f i)))) (hn9 : n < 2147483648) {x v : Int} (h0 : 0 ≤ x) (h1 : x < n) (hpl : plain k = true) (hdg : decode cc pc = .ok (.iastore, 1))
    (kk : ∀ (H1 : Heap) (locs1 : List Loc), Hs D ct ad L φ N0 s.heap (st σ k j x.toNat v) H1 locs1 → W p l e R s m args below meth c H1 locs1 cells slots Q (F0 m (pc + 1) ls rest)) : W p l e R s m args below meth c H locs cells slots Q (F0 m pc ls (.int (iv v) :: .int (iv x) :: .ref (ad k j) :: rest)) := by
  obtain ⟨hx, hb, -, -, hown, -, hts, hK, -, -⟩ := X
  obtain ⟨n0, hn⟩ := List.getElem?_of_mem hm
  have he := pl_at (ct := ct) (ad := ad) (φ := φ) (σ := σ) hn
  rw [hp] at he
  refine va_iast hx hb hK.1 h.1.1 h.1.2 h.2.1 n0 0 he rfl (iv_in hn9 h0 h1) hdg (fun H1 locs1 hP hD hS => ?_)
  rw [iv_clamp ⟨by omega, by omega⟩] at hP hD
  have hE : pcell ct ad k j (φ k j) (up (σ k j) x.toNat v) = .inl (ct 0, n, .inl (upd (fun i => iv (σ k j i)) x.toNat (iv v))) := by
    rw [hp]
    congr 4
    funext i
    unfold up upd
    split <;> simp_all
  rw [pl_set h.1.2 hn hE] at hP hD
  exact kk H1 locs1 ⟨⟨hP, hD⟩, hS, Dyn_st h.2.2 hpl⟩
theorem r_zast (X : Cx p s m meth c args cc nL ret own D ct L φ N0) (h : Hs D ct ad L φ N0 s.heap σ H locs) {k j n : Nat} (hm : (k, j) ∈ L) (hp : ∀ f : Nat → Int, pcell ct ad k j (φ k j) f = .inl (ct 1, n, .inl (fun i => iv (f i)))) (hn9 : n < 2147483648) {x v : Int} (h0 : 0 ≤ x) (h1 : x < n) (hpl : plain k = true) (hv9 : vp_nar .boolean (iv v) = iv v) (hdg : decode cc pc = .ok (.bastore, 1))
    (kk : ∀ (H1 : Heap) (locs1 : List Loc), Hs D ct ad L φ N0 s.heap (st σ k j x.toNat v) H1 locs1 → W p l e R s m args below meth c H1 locs1 cells slots Q (F0 m (pc + 1) ls rest)) : W p l e R s m args below meth c H locs cells slots Q (F0 m pc ls (.int (iv v) :: .int (iv x) :: .ref (ad k j) :: rest)) := by
  obtain ⟨hx, hb, -, -, hown, -, hts, hK, -, -⟩ := X
  obtain ⟨n0, hn⟩ := List.getElem?_of_mem hm
  have he := pl_at (ct := ct) (ad := ad) (φ := φ) (σ := σ) hn
  rw [hp] at he
  refine va_zast hx hb hK.1 h.1.1 h.1.2 h.2.1 n0 1 he rfl (iv_in hn9 h0 h1) hdg (fun H1 locs1 hP hD hS => ?_)
  rw [hv9] at hP hD
  rw [iv_clamp ⟨by omega, by omega⟩] at hP hD
  have hE : pcell ct ad k j (φ k j) (up (σ k j) x.toNat v) = .inl (ct 1, n, .inl (upd (fun i => iv (σ k j i)) x.toNat (iv v))) := by
    rw [hp]
    congr 4
    funext i
    unfold up upd
    split <;> simp_all
  rw [pl_set h.1.2 hn hE] at hP hD
  exact kk H1 locs1 ⟨⟨hP, hD⟩, hS, Dyn_st h.2.2 hpl⟩
theorem r_bast (X : Cx p s m meth c args cc nL ret own D ct L φ N0) (h : Hs D ct ad L φ N0 s.heap σ H locs) {k j n : Nat} (hm : (k, j) ∈ L) (hp : ∀ f : Nat → Int, pcell ct ad k j (φ k j) f = .inl (ct 2, n, .inl (fun i => iv (f i)))) (hn9 : n < 2147483648) {x v : Int} (h0 : 0 ≤ x) (h1 : x < n) (hpl : plain k = true) (hv9 : vp_nar .byte (iv v) = iv v) (hdg : decode cc pc = .ok (.bastore, 1))
    (kk : ∀ (H1 : Heap) (locs1 : List Loc), Hs D ct ad L φ N0 s.heap (st σ k j x.toNat v) H1 locs1 → W p l e R s m args below meth c H1 locs1 cells slots Q (F0 m (pc + 1) ls rest)) : W p l e R s m args below meth c H locs cells slots Q (F0 m pc ls (.int (iv v) :: .int (iv x) :: .ref (ad k j) :: rest)) := by
  obtain ⟨hx, hb, -, -, hown, -, hts, hK, -, -⟩ := X
  obtain ⟨n0, hn⟩ := List.getElem?_of_mem hm
  have he := pl_at (ct := ct) (ad := ad) (φ := φ) (σ := σ) hn
  rw [hp] at he
  refine va_bast hx hb hK.1 h.1.1 h.1.2 h.2.1 n0 2 he rfl (iv_in hn9 h0 h1) hdg (fun H1 locs1 hP hD hS => ?_)
  rw [hv9] at hP hD
  rw [iv_clamp ⟨by omega, by omega⟩] at hP hD
  have hE : pcell ct ad k j (φ k j) (up (σ k j) x.toNat v) = .inl (ct 2, n, .inl (upd (fun i => iv (σ k j i)) x.toNat (iv v))) := by
    rw [hp]
    congr 4
    funext i
    unfold up upd
    split <;> simp_all
  rw [pl_set h.1.2 hn hE] at hP hD
  exact kk H1 locs1 ⟨⟨hP, hD⟩, hS, Dyn_st h.2.2 hpl⟩
end RW
