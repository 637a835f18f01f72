/-! what the premises give at the law's entry -/
abbrev gvL : List Cond := flatC (Jvm.Cond.and given_1 narrow_1)
theorem gvn {b : Nat} {s : State} (hgv : (Jvm.Cond.and given_1 narrow_1).before #[Value.ref b] s = true) (n : Nat) {w : Cond} (h : gvL[n]? = some w) : w.before #[Value.ref b] s = true := flat_of_before _ hgv w (List.mem_of_getElem? h)
theorem pS_0 : ∀ j, j < 4 → gvL[41 + j]? = some (Cond.eq (.elem (.field (Term.string "TimberValley$Tape" 48) "java/lang/String" "value" "[B") (.int (Int32.ofNat j))) (.int (([60, 61, 62, 59] : List Int32).getD j 0))) := by decide +kernel
theorem sS_0 {b : Nat} {s : State} {A : Nat → Prop} (hgv : (Jvm.Cond.and given_1 narrow_1).before #[Value.ref b] s = true) (hA : ∀ a : Nat, a < s.heap.size → ¬ A a) : ∃ q : Nat × Nat, (Term.string "TimberValley$Tape" 48).eval #[Value.ref b] s none [] s = some (.ref q.1) ∧ va_O "java/lang/String" q.1 A s s.heap ∧ va_OF "java/lang/String" "coder" "B" (.int 0) q.1 A s s.heap ∧ va_OF "java/lang/String" "value" "[B" (.ref q.2) q.1 A s s.heap ∧ va_T .byte q.2 (strL.getD 0 0) (fun j => .int ((strB.getD 0 []).getD j 0)) A s s.heap := by
  obtain ⟨adK, adV, h, he⟩ := vk_Sof (N := 1) (tm := fun _ => (Term.string "TimberValley$Tape" 48)) (len := [4]) (byt := [[60, 61, 62, 59]]) (A := A) (args := #[Value.ref b]) (s := s) (fun i hi => by rw [show i = 0 by omega]; decide) (fun i _ => gvn hgv 37 rfl) (fun i _ => gvn hgv 38 rfl) (fun i _ => gvn hgv 39 rfl) (fun i hi => by rw [show i = 0 by omega]; exact gvn hgv 40 rfl) (fun i hi j hj => by obtain rfl : i = 0 := (by omega); exact gvn hgv (41 + j) (pS_0 j hj)) (fun i j hi hj hn => absurd (by omega) hn) hA
  exact ⟨(adK 0, adV 0), he 0 (by decide), h.1 0 (by decide)⟩
theorem pS_1 : ∀ j, j < 19 → gvL[49 + j]? = some (Cond.eq (.elem (.field (Term.string "TimberValley$Statutes" 119) "java/lang/String" "value" "[B") (.int (Int32.ofNat j))) (.int (([98, 97, 114, 32, 112, 97, 121, 32, 99, 114, 101, 100, 105, 116, 32, 114, 101, 110, 116] : List Int32).getD j 0))) := by decide +kernel
theorem sS_1 {b : Nat} {s : State} {A : Nat → Prop} (hgv : (Jvm.Cond.and given_1 narrow_1).before #[Value.ref b] s = true) (hA : ∀ a : Nat, a < s.heap.size → ¬ A a) : ∃ q : Nat × Nat, (Term.string "TimberValley$Statutes" 119).eval #[Value.ref b] s none [] s = some (.ref q.1) ∧ va_O "java/lang/String" q.1 A s s.heap ∧ va_OF "java/lang/String" "coder" "B" (.int 0) q.1 A s s.heap ∧ va_OF "java/lang/String" "value" "[B" (.ref q.2) q.1 A s s.heap ∧ va_T .byte q.2 (strL.getD 1 0) (fun j => .int ((strB.getD 1 []).getD j 0)) A s s.heap := by
  obtain ⟨adK, adV, h, he⟩ := vk_Sof (N := 1) (tm := fun _ => (Term.string "TimberValley$Statutes" 119)) (len := [19]) (byt := [[98, 97, 114, 32, 112, 97, 121, 32, 99, 114, 101, 100, 105, 116, 32, 114, 101, 110, 116]]) (A := A) (args := #[Value.ref b]) (s := s) (fun i hi => by rw [show i = 0 by omega]; decide) (fun i _ => gvn hgv 45 rfl) (fun i _ => gvn hgv 46 rfl) (fun i _ => gvn hgv 47 rfl) (fun i hi => by rw [show i = 0 by omega]; exact gvn hgv 48 rfl) (fun i hi j hj => by obtain rfl : i = 0 := (by omega); exact gvn hgv (49 + j) (pS_1 j hj)) (fun i j hi hj hn => absurd (by omega) hn) hA
  exact ⟨(adK 0, adV 0), he 0 (by decide), h.1 0 (by decide)⟩
theorem pS_2 : ∀ j, j < 14 → gvL[72 + j]? = some (Cond.eq (.elem (.field (Term.string "TimberValley$Statutes" 83) "java/lang/String" "value" "[B") (.int (Int32.ofNat j))) (.int (([99, 117, 116, 32, 99, 97, 114, 114, 121, 32, 102, 105, 114, 101] : List Int32).getD j 0))) := by decide +kernel
theorem sS_2 {b : Nat} {s : State} {A : Nat → Prop} (hgv : (Jvm.Cond.and given_1 narrow_1).before #[Value.ref b] s = true) (hA : ∀ a : Nat, a < s.heap.size → ¬ A a) : ∃ q : Nat × Nat, (Term.string "TimberValley$Statutes" 83).eval #[Value.ref b] s none [] s = some (.ref q.1) ∧ va_O "java/lang/String" q.1 A s s.heap ∧ va_OF "java/lang/String" "coder" "B" (.int 0) q.1 A s s.heap ∧ va_OF "java/lang/String" "value" "[B" (.ref q.2) q.1 A s s.heap ∧ va_T .byte q.2 (strL.getD 2 0) (fun j => .int ((strB.getD 2 []).getD j 0)) A s s.heap := by
  obtain ⟨adK, adV, h, he⟩ := vk_Sof (N := 1) (tm := fun _ => (Term.string "TimberValley$Statutes" 83)) (len := [14]) (byt := [[99, 117, 116, 32, 99, 97, 114, 114, 121, 32, 102, 105, 114, 101]]) (A := A) (args := #[Value.ref b]) (s := s) (fun i hi => by rw [show i = 0 by omega]; decide) (fun i _ => gvn hgv 68 rfl) (fun i _ => gvn hgv 69 rfl) (fun i _ => gvn hgv 70 rfl) (fun i hi => by rw [show i = 0 by omega]; exact gvn hgv 71 rfl) (fun i hi j hj => by obtain rfl : i = 0 := (by omega); exact gvn hgv (72 + j) (pS_2 j hj)) (fun i j hi hj hn => absurd (by omega) hn) hA
  exact ⟨(adK 0, adV 0), he 0 (by decide), h.1 0 (by decide)⟩
theorem pS_3 : ∀ j, j < 2 → gvL[90 + j]? = some (Cond.eq (.elem (.field (Term.string "TimberValley$Statutes" 96) "java/lang/String" "value" "[B") (.int (Int32.ofNat j))) (.int (([105, 102] : List Int32).getD j 0))) := by decide +kernel
theorem sS_3 {b : Nat} {s : State} {A : Nat → Prop} (hgv : (Jvm.Cond.and given_1 narrow_1).before #[Value.ref b] s = true) (hA : ∀ a : Nat, a < s.heap.size → ¬ A a) : ∃ q : Nat × Nat, (Term.string "TimberValley$Statutes" 96).eval #[Value.ref b] s none [] s = some (.ref q.1) ∧ va_O "java/lang/String" q.1 A s s.heap ∧ va_OF "java/lang/String" "coder" "B" (.int 0) q.1 A s s.heap ∧ va_OF "java/lang/String" "value" "[B" (.ref q.2) q.1 A s s.heap ∧ va_T .byte q.2 (strL.getD 3 0) (fun j => .int ((strB.getD 3 []).getD j 0)) A s s.heap := by
  obtain ⟨adK, adV, h, he⟩ := vk_Sof (N := 1) (tm := fun _ => (Term.string "TimberValley$Statutes" 96)) (len := [2]) (byt := [[105, 102]]) (A := A) (args := #[Value.ref b]) (s := s) (fun i hi => by rw [show i = 0 by omega]; decide) (fun i _ => gvn hgv 86 rfl) (fun i _ => gvn hgv 87 rfl) (fun i _ => gvn hgv 88 rfl) (fun i hi => by rw [show i = 0 by omega]; exact gvn hgv 89 rfl) (fun i hi j hj => by obtain rfl : i = 0 := (by omega); exact gvn hgv (90 + j) (pS_3 j hj)) (fun i j hi hj hn => absurd (by omega) hn) hA
  exact ⟨(adK 0, adV 0), he 0 (by decide), h.1 0 (by decide)⟩
theorem pS_4 : ∀ j, j < 3 → gvL[96 + j]? = some (Cond.eq (.elem (.field (Term.string "TimberValley$Statutes" 124) "java/lang/String" "value" "[B") (.int (Int32.ofNat j))) (.int (([110, 111, 116] : List Int32).getD j 0))) := by decide +kernel
theorem sS_4 {b : Nat} {s : State} {A : Nat → Prop} (hgv : (Jvm.Cond.and given_1 narrow_1).before #[Value.ref b] s = true) (hA : ∀ a : Nat, a < s.heap.size → ¬ A a) : ∃ q : Nat × Nat, (Term.string "TimberValley$Statutes" 124).eval #[Value.ref b] s none [] s = some (.ref q.1) ∧ va_O "java/lang/String" q.1 A s s.heap ∧ va_OF "java/lang/String" "coder" "B" (.int 0) q.1 A s s.heap ∧ va_OF "java/lang/String" "value" "[B" (.ref q.2) q.1 A s s.heap ∧ va_T .byte q.2 (strL.getD 4 0) (fun j => .int ((strB.getD 4 []).getD j 0)) A s s.heap := by
  obtain ⟨adK, adV, h, he⟩ := vk_Sof (N := 1) (tm := fun _ => (Term.string "TimberValley$Statutes" 124)) (len := [3]) (byt := [[110, 111, 116]]) (A := A) (args := #[Value.ref b]) (s := s) (fun i hi => by rw [show i = 0 by omega]; decide) (fun i _ => gvn hgv 92 rfl) (fun i _ => gvn hgv 93 rfl) (fun i _ => gvn hgv 94 rfl) (fun i hi => by rw [show i = 0 by omega]; exact gvn hgv 95 rfl) (fun i hi j hj => by obtain rfl : i = 0 := (by omega); exact gvn hgv (96 + j) (pS_4 j hj)) (fun i j hi hj hn => absurd (by omega) hn) hA
  exact ⟨(adK 0, adV 0), he 0 (by decide), h.1 0 (by decide)⟩
theorem pS_5 : ∀ j, j < 67 → gvL[103 + j]? = some (Cond.eq (.elem (.field (Term.string "TimberValley$Statutes" 105) "java/lang/String" "value" "[B") (.int (Int32.ofNat j))) (.int (([99, 101, 108, 108, 32, 104, 101, 105, 103, 104, 116, 32, 115, 111, 114, 116, 32, 99, 108, 97, 115, 115, 32, 115, 101, 97, 115, 111, 110, 32, 100, 97, 121, 32, 115, 110, 111, 119, 32, 119, 97, 116, 101, 114, 32, 100, 114, 121, 32, 102, 97, 114, 32, 115, 108, 97, 115, 104, 32, 99, 114, 101, 119, 32, 119, 97, 121] : List Int32).getD j 0))) := by decide +kernel
theorem sS_5 {b : Nat} {s : State} {A : Nat → Prop} (hgv : (Jvm.Cond.and given_1 narrow_1).before #[Value.ref b] s = true) (hA : ∀ a : Nat, a < s.heap.size → ¬ A a) : ∃ q : Nat × Nat, (Term.string "TimberValley$Statutes" 105).eval #[Value.ref b] s none [] s = some (.ref q.1) ∧ va_O "java/lang/String" q.1 A s s.heap ∧ va_OF "java/lang/String" "coder" "B" (.int 0) q.1 A s s.heap ∧ va_OF "java/lang/String" "value" "[B" (.ref q.2) q.1 A s s.heap ∧ va_T .byte q.2 (strL.getD 5 0) (fun j => .int ((strB.getD 5 []).getD j 0)) A s s.heap := by
  obtain ⟨adK, adV, h, he⟩ := vk_Sof (N := 1) (tm := fun _ => (Term.string "TimberValley$Statutes" 105)) (len := [67]) (byt := [[99, 101, 108, 108, 32, 104, 101, 105, 103, 104, 116, 32, 115, 111, 114, 116, 32, 99, 108, 97, 115, 115, 32, 115, 101, 97, 115, 111, 110, 32, 100, 97, 121, 32, 115, 110, 111, 119, 32, 119, 97, 116, 101, 114, 32, 100, 114, 121, 32, 102, 97, 114, 32, 115, 108, 97, 115, 104, 32, 99, 114, 101, 119, 32, 119, 97, 121]]) (A := A) (args := #[Value.ref b]) (s := s) (fun i hi => by rw [show i = 0 by omega]; decide) (fun i _ => gvn hgv 99 rfl) (fun i _ => gvn hgv 100 rfl) (fun i _ => gvn hgv 101 rfl) (fun i hi => by rw [show i = 0 by omega]; exact gvn hgv 102 rfl) (fun i hi j hj => by obtain rfl : i = 0 := (by omega); exact gvn hgv (103 + j) (pS_5 j hj)) (fun i j hi hj hn => absurd (by omega) hn) hA
  exact ⟨(adK 0, adV 0), he 0 (by decide), h.1 0 (by decide)⟩
theorem pS_6 : ∀ j, j < 3 → gvL[174 + j]? = some (Cond.eq (.elem (.field (Term.string "TimberValley$Statutes" 136) "java/lang/String" "value" "[B") (.int (Int32.ofNat j))) (.int (([97, 110, 100] : List Int32).getD j 0))) := by decide +kernel
theorem sS_6 {b : Nat} {s : State} {A : Nat → Prop} (hgv : (Jvm.Cond.and given_1 narrow_1).before #[Value.ref b] s = true) (hA : ∀ a : Nat, a < s.heap.size → ¬ A a) : ∃ q : Nat × Nat, (Term.string "TimberValley$Statutes" 136).eval #[Value.ref b] s none [] s = some (.ref q.1) ∧ va_O "java/lang/String" q.1 A s s.heap ∧ va_OF "java/lang/String" "coder" "B" (.int 0) q.1 A s s.heap ∧ va_OF "java/lang/String" "value" "[B" (.ref q.2) q.1 A s s.heap ∧ va_T .byte q.2 (strL.getD 6 0) (fun j => .int ((strB.getD 6 []).getD j 0)) A s s.heap := by
  obtain ⟨adK, adV, h, he⟩ := vk_Sof (N := 1) (tm := fun _ => (Term.string "TimberValley$Statutes" 136)) (len := [3]) (byt := [[97, 110, 100]]) (A := A) (args := #[Value.ref b]) (s := s) (fun i hi => by rw [show i = 0 by omega]; decide) (fun i _ => gvn hgv 170 rfl) (fun i _ => gvn hgv 171 rfl) (fun i _ => gvn hgv 172 rfl) (fun i hi => by rw [show i = 0 by omega]; exact gvn hgv 173 rfl) (fun i hi j hj => by obtain rfl : i = 0 := (by omega); exact gvn hgv (174 + j) (pS_6 j hj)) (fun i j hi hj hn => absurd (by omega) hn) hA
  exact ⟨(adK 0, adV 0), he 0 (by decide), h.1 0 (by decide)⟩
theorem pS_7 : ∀ j, j < 3 → gvL[181 + j]? = some (Cond.eq (.elem (.field (Term.string "TimberValleyModel" 399) "java/lang/String" "value" "[B") (.int (Int32.ofNat j))) (.int (([98, 97, 114] : List Int32).getD j 0))) := by decide +kernel
theorem sS_7 {b : Nat} {s : State} {A : Nat → Prop} (hgv : (Jvm.Cond.and given_1 narrow_1).before #[Value.ref b] s = true) (hA : ∀ a : Nat, a < s.heap.size → ¬ A a) : ∃ q : Nat × Nat, (Term.string "TimberValleyModel" 399).eval #[Value.ref b] s none [] s = some (.ref q.1) ∧ va_O "java/lang/String" q.1 A s s.heap ∧ va_OF "java/lang/String" "coder" "B" (.int 0) q.1 A s s.heap ∧ va_OF "java/lang/String" "value" "[B" (.ref q.2) q.1 A s s.heap ∧ va_T .byte q.2 (strL.getD 7 0) (fun j => .int ((strB.getD 7 []).getD j 0)) A s s.heap := by
  obtain ⟨adK, adV, h, he⟩ := vk_Sof (N := 1) (tm := fun _ => (Term.string "TimberValleyModel" 399)) (len := [3]) (byt := [[98, 97, 114]]) (A := A) (args := #[Value.ref b]) (s := s) (fun i hi => by rw [show i = 0 by omega]; decide) (fun i _ => gvn hgv 177 rfl) (fun i _ => gvn hgv 178 rfl) (fun i _ => gvn hgv 179 rfl) (fun i hi => by rw [show i = 0 by omega]; exact gvn hgv 180 rfl) (fun i hi j hj => by obtain rfl : i = 0 := (by omega); exact gvn hgv (181 + j) (pS_7 j hj)) (fun i j hi hj hn => absurd (by omega) hn) hA
  exact ⟨(adK 0, adV 0), he 0 (by decide), h.1 0 (by decide)⟩
theorem pS_8 : ∀ j, j < 3 → gvL[188 + j]? = some (Cond.eq (.elem (.field (Term.string "TimberValleyModel" 401) "java/lang/String" "value" "[B") (.int (Int32.ofNat j))) (.int (([112, 97, 121] : List Int32).getD j 0))) := by decide +kernel
theorem sS_8 {b : Nat} {s : State} {A : Nat → Prop} (hgv : (Jvm.Cond.and given_1 narrow_1).before #[Value.ref b] s = true) (hA : ∀ a : Nat, a < s.heap.size → ¬ A a) : ∃ q : Nat × Nat, (Term.string "TimberValleyModel" 401).eval #[Value.ref b] s none [] s = some (.ref q.1) ∧ va_O "java/lang/String" q.1 A s s.heap ∧ va_OF "java/lang/String" "coder" "B" (.int 0) q.1 A s s.heap ∧ va_OF "java/lang/String" "value" "[B" (.ref q.2) q.1 A s s.heap ∧ va_T .byte q.2 (strL.getD 8 0) (fun j => .int ((strB.getD 8 []).getD j 0)) A s s.heap := by
  obtain ⟨adK, adV, h, he⟩ := vk_Sof (N := 1) (tm := fun _ => (Term.string "TimberValleyModel" 401)) (len := [3]) (byt := [[112, 97, 121]]) (A := A) (args := #[Value.ref b]) (s := s) (fun i hi => by rw [show i = 0 by omega]; decide) (fun i _ => gvn hgv 184 rfl) (fun i _ => gvn hgv 185 rfl) (fun i _ => gvn hgv 186 rfl) (fun i hi => by rw [show i = 0 by omega]; exact gvn hgv 187 rfl) (fun i hi j hj => by obtain rfl : i = 0 := (by omega); exact gvn hgv (188 + j) (pS_8 j hj)) (fun i j hi hj hn => absurd (by omega) hn) hA
  exact ⟨(adK 0, adV 0), he 0 (by decide), h.1 0 (by decide)⟩
theorem pS_9 : ∀ j, j < 6 → gvL[195 + j]? = some (Cond.eq (.elem (.field (Term.string "TimberValleyModel" 403) "java/lang/String" "value" "[B") (.int (Int32.ofNat j))) (.int (([99, 114, 101, 100, 105, 116] : List Int32).getD j 0))) := by decide +kernel
theorem sS_9 {b : Nat} {s : State} {A : Nat → Prop} (hgv : (Jvm.Cond.and given_1 narrow_1).before #[Value.ref b] s = true) (hA : ∀ a : Nat, a < s.heap.size → ¬ A a) : ∃ q : Nat × Nat, (Term.string "TimberValleyModel" 403).eval #[Value.ref b] s none [] s = some (.ref q.1) ∧ va_O "java/lang/String" q.1 A s s.heap ∧ va_OF "java/lang/String" "coder" "B" (.int 0) q.1 A s s.heap ∧ va_OF "java/lang/String" "value" "[B" (.ref q.2) q.1 A s s.heap ∧ va_T .byte q.2 (strL.getD 9 0) (fun j => .int ((strB.getD 9 []).getD j 0)) A s s.heap := by
  obtain ⟨adK, adV, h, he⟩ := vk_Sof (N := 1) (tm := fun _ => (Term.string "TimberValleyModel" 403)) (len := [6]) (byt := [[99, 114, 101, 100, 105, 116]]) (A := A) (args := #[Value.ref b]) (s := s) (fun i hi => by rw [show i = 0 by omega]; decide) (fun i _ => gvn hgv 191 rfl) (fun i _ => gvn hgv 192 rfl) (fun i _ => gvn hgv 193 rfl) (fun i hi => by rw [show i = 0 by omega]; exact gvn hgv 194 rfl) (fun i hi j hj => by obtain rfl : i = 0 := (by omega); exact gvn hgv (195 + j) (pS_9 j hj)) (fun i j hi hj hn => absurd (by omega) hn) hA
  exact ⟨(adK 0, adV 0), he 0 (by decide), h.1 0 (by decide)⟩
theorem pS_10 : ∀ j, j < 4 → gvL[205 + j]? = some (Cond.eq (.elem (.field (Term.string "TimberValleyModel" 405) "java/lang/String" "value" "[B") (.int (Int32.ofNat j))) (.int (([114, 101, 110, 116] : List Int32).getD j 0))) := by decide +kernel
theorem sS_10 {b : Nat} {s : State} {A : Nat → Prop} (hgv : (Jvm.Cond.and given_1 narrow_1).before #[Value.ref b] s = true) (hA : ∀ a : Nat, a < s.heap.size → ¬ A a) : ∃ q : Nat × Nat, (Term.string "TimberValleyModel" 405).eval #[Value.ref b] s none [] s = some (.ref q.1) ∧ va_O "java/lang/String" q.1 A s s.heap ∧ va_OF "java/lang/String" "coder" "B" (.int 0) q.1 A s s.heap ∧ va_OF "java/lang/String" "value" "[B" (.ref q.2) q.1 A s s.heap ∧ va_T .byte q.2 (strL.getD 10 0) (fun j => .int ((strB.getD 10 []).getD j 0)) A s s.heap := by
  obtain ⟨adK, adV, h, he⟩ := vk_Sof (N := 1) (tm := fun _ => (Term.string "TimberValleyModel" 405)) (len := [4]) (byt := [[114, 101, 110, 116]]) (A := A) (args := #[Value.ref b]) (s := s) (fun i hi => by rw [show i = 0 by omega]; decide) (fun i _ => gvn hgv 201 rfl) (fun i _ => gvn hgv 202 rfl) (fun i _ => gvn hgv 203 rfl) (fun i hi => by rw [show i = 0 by omega]; exact gvn hgv 204 rfl) (fun i hi j hj => by obtain rfl : i = 0 := (by omega); exact gvn hgv (205 + j) (pS_10 j hj)) (fun i j hi hj hn => absurd (by omega) hn) hA
  exact ⟨(adK 0, adV 0), he 0 (by decide), h.1 0 (by decide)⟩
theorem pS_11 : ∀ j, j < 3 → gvL[213 + j]? = some (Cond.eq (.elem (.field (Term.string "TimberValleyModel" 410) "java/lang/String" "value" "[B") (.int (Int32.ofNat j))) (.int (([99, 117, 116] : List Int32).getD j 0))) := by decide +kernel
theorem sS_11 {b : Nat} {s : State} {A : Nat → Prop} (hgv : (Jvm.Cond.and given_1 narrow_1).before #[Value.ref b] s = true) (hA : ∀ a : Nat, a < s.heap.size → ¬ A a) : ∃ q : Nat × Nat, (Term.string "TimberValleyModel" 410).eval #[Value.ref b] s none [] s = some (.ref q.1) ∧ va_O "java/lang/String" q.1 A s s.heap ∧ va_OF "java/lang/String" "coder" "B" (.int 0) q.1 A s s.heap ∧ va_OF "java/lang/String" "value" "[B" (.ref q.2) q.1 A s s.heap ∧ va_T .byte q.2 (strL.getD 11 0) (fun j => .int ((strB.getD 11 []).getD j 0)) A s s.heap := by
  obtain ⟨adK, adV, h, he⟩ := vk_Sof (N := 1) (tm := fun _ => (Term.string "TimberValleyModel" 410)) (len := [3]) (byt := [[99, 117, 116]]) (A := A) (args := #[Value.ref b]) (s := s) (fun i hi => by rw [show i = 0 by omega]; decide) (fun i _ => gvn hgv 209 rfl) (fun i _ => gvn hgv 210 rfl) (fun i _ => gvn hgv 211 rfl) (fun i hi => by rw [show i = 0 by omega]; exact gvn hgv 212 rfl) (fun i hi j hj => by obtain rfl : i = 0 := (by omega); exact gvn hgv (213 + j) (pS_11 j hj)) (fun i j hi hj hn => absurd (by omega) hn) hA
  exact ⟨(adK 0, adV 0), he 0 (by decide), h.1 0 (by decide)⟩
theorem pS_12 : ∀ j, j < 5 → gvL[220 + j]? = some (Cond.eq (.elem (.field (Term.string "TimberValleyModel" 412) "java/lang/String" "value" "[B") (.int (Int32.ofNat j))) (.int (([99, 97, 114, 114, 121] : List Int32).getD j 0))) := by decide +kernel
theorem sS_12 {b : Nat} {s : State} {A : Nat → Prop} (hgv : (Jvm.Cond.and given_1 narrow_1).before #[Value.ref b] s = true) (hA : ∀ a : Nat, a < s.heap.size → ¬ A a) : ∃ q : Nat × Nat, (Term.string "TimberValleyModel" 412).eval #[Value.ref b] s none [] s = some (.ref q.1) ∧ va_O "java/lang/String" q.1 A s s.heap ∧ va_OF "java/lang/String" "coder" "B" (.int 0) q.1 A s s.heap ∧ va_OF "java/lang/String" "value" "[B" (.ref q.2) q.1 A s s.heap ∧ va_T .byte q.2 (strL.getD 12 0) (fun j => .int ((strB.getD 12 []).getD j 0)) A s s.heap := by
  obtain ⟨adK, adV, h, he⟩ := vk_Sof (N := 1) (tm := fun _ => (Term.string "TimberValleyModel" 412)) (len := [5]) (byt := [[99, 97, 114, 114, 121]]) (A := A) (args := #[Value.ref b]) (s := s) (fun i hi => by rw [show i = 0 by omega]; decide) (fun i _ => gvn hgv 216 rfl) (fun i _ => gvn hgv 217 rfl) (fun i _ => gvn hgv 218 rfl) (fun i hi => by rw [show i = 0 by omega]; exact gvn hgv 219 rfl) (fun i hi j hj => by obtain rfl : i = 0 := (by omega); exact gvn hgv (220 + j) (pS_12 j hj)) (fun i j hi hj hn => absurd (by omega) hn) hA
  exact ⟨(adK 0, adV 0), he 0 (by decide), h.1 0 (by decide)⟩
theorem pS_13 : ∀ j, j < 4 → gvL[229 + j]? = some (Cond.eq (.elem (.field (Term.string "TimberValleyModel" 414) "java/lang/String" "value" "[B") (.int (Int32.ofNat j))) (.int (([102, 105, 114, 101] : List Int32).getD j 0))) := by decide +kernel
theorem sS_13 {b : Nat} {s : State} {A : Nat → Prop} (hgv : (Jvm.Cond.and given_1 narrow_1).before #[Value.ref b] s = true) (hA : ∀ a : Nat, a < s.heap.size → ¬ A a) : ∃ q : Nat × Nat, (Term.string "TimberValleyModel" 414).eval #[Value.ref b] s none [] s = some (.ref q.1) ∧ va_O "java/lang/String" q.1 A s s.heap ∧ va_OF "java/lang/String" "coder" "B" (.int 0) q.1 A s s.heap ∧ va_OF "java/lang/String" "value" "[B" (.ref q.2) q.1 A s s.heap ∧ va_T .byte q.2 (strL.getD 13 0) (fun j => .int ((strB.getD 13 []).getD j 0)) A s s.heap := by
  obtain ⟨adK, adV, h, he⟩ := vk_Sof (N := 1) (tm := fun _ => (Term.string "TimberValleyModel" 414)) (len := [4]) (byt := [[102, 105, 114, 101]]) (A := A) (args := #[Value.ref b]) (s := s) (fun i hi => by rw [show i = 0 by omega]; decide) (fun i _ => gvn hgv 225 rfl) (fun i _ => gvn hgv 226 rfl) (fun i _ => gvn hgv 227 rfl) (fun i hi => by rw [show i = 0 by omega]; exact gvn hgv 228 rfl) (fun i hi j hj => by obtain rfl : i = 0 := (by omega); exact gvn hgv (229 + j) (pS_13 j hj)) (fun i j hi hj hn => absurd (by omega) hn) hA
  exact ⟨(adK 0, adV 0), he 0 (by decide), h.1 0 (by decide)⟩
theorem pS_14 : ∀ j, j < 4 → gvL[252 + j]? = some (Cond.eq (.elem (.field (Term.string "TimberValleyModel" 351) "java/lang/String" "value" "[B") (.int (Int32.ofNat j))) (.int (([99, 101, 108, 108] : List Int32).getD j 0))) := by decide +kernel
theorem sS_14 {b : Nat} {s : State} {A : Nat → Prop} (hgv : (Jvm.Cond.and given_1 narrow_1).before #[Value.ref b] s = true) (hA : ∀ a : Nat, a < s.heap.size → ¬ A a) : ∃ q : Nat × Nat, (Term.string "TimberValleyModel" 351).eval #[Value.ref b] s none [] s = some (.ref q.1) ∧ va_O "java/lang/String" q.1 A s s.heap ∧ va_OF "java/lang/String" "coder" "B" (.int 0) q.1 A s s.heap ∧ va_OF "java/lang/String" "value" "[B" (.ref q.2) q.1 A s s.heap ∧ va_T .byte q.2 (strL.getD 14 0) (fun j => .int ((strB.getD 14 []).getD j 0)) A s s.heap := by
  obtain ⟨adK, adV, h, he⟩ := vk_Sof (N := 1) (tm := fun _ => (Term.string "TimberValleyModel" 351)) (len := [4]) (byt := [[99, 101, 108, 108]]) (A := A) (args := #[Value.ref b]) (s := s) (fun i hi => by rw [show i = 0 by omega]; decide) (fun i _ => gvn hgv 248 rfl) (fun i _ => gvn hgv 249 rfl) (fun i _ => gvn hgv 250 rfl) (fun i hi => by rw [show i = 0 by omega]; exact gvn hgv 251 rfl) (fun i hi j hj => by obtain rfl : i = 0 := (by omega); exact gvn hgv (252 + j) (pS_14 j hj)) (fun i j hi hj hn => absurd (by omega) hn) hA
  exact ⟨(adK 0, adV 0), he 0 (by decide), h.1 0 (by decide)⟩
theorem pS_15 : ∀ j, j < 6 → gvL[260 + j]? = some (Cond.eq (.elem (.field (Term.string "TimberValleyModel" 353) "java/lang/String" "value" "[B") (.int (Int32.ofNat j))) (.int (([104, 101, 105, 103, 104, 116] : List Int32).getD j 0))) := by decide +kernel
theorem sS_15 {b : Nat} {s : State} {A : Nat → Prop} (hgv : (Jvm.Cond.and given_1 narrow_1).before #[Value.ref b] s = true) (hA : ∀ a : Nat, a < s.heap.size → ¬ A a) : ∃ q : Nat × Nat, (Term.string "TimberValleyModel" 353).eval #[Value.ref b] s none [] s = some (.ref q.1) ∧ va_O "java/lang/String" q.1 A s s.heap ∧ va_OF "java/lang/String" "coder" "B" (.int 0) q.1 A s s.heap ∧ va_OF "java/lang/String" "value" "[B" (.ref q.2) q.1 A s s.heap ∧ va_T .byte q.2 (strL.getD 15 0) (fun j => .int ((strB.getD 15 []).getD j 0)) A s s.heap := by
  obtain ⟨adK, adV, h, he⟩ := vk_Sof (N := 1) (tm := fun _ => (Term.string "TimberValleyModel" 353)) (len := [6]) (byt := [[104, 101, 105, 103, 104, 116]]) (A := A) (args := #[Value.ref b]) (s := s) (fun i hi => by rw [show i = 0 by omega]; decide) (fun i _ => gvn hgv 256 rfl) (fun i _ => gvn hgv 257 rfl) (fun i _ => gvn hgv 258 rfl) (fun i hi => by rw [show i = 0 by omega]; exact gvn hgv 259 rfl) (fun i hi j hj => by obtain rfl : i = 0 := (by omega); exact gvn hgv (260 + j) (pS_15 j hj)) (fun i j hi hj hn => absurd (by omega) hn) hA
  exact ⟨(adK 0, adV 0), he 0 (by decide), h.1 0 (by decide)⟩
theorem pS_16 : ∀ j, j < 4 → gvL[270 + j]? = some (Cond.eq (.elem (.field (Term.string "TimberValleyModel" 354) "java/lang/String" "value" "[B") (.int (Int32.ofNat j))) (.int (([115, 111, 114, 116] : List Int32).getD j 0))) := by decide +kernel
theorem sS_16 {b : Nat} {s : State} {A : Nat → Prop} (hgv : (Jvm.Cond.and given_1 narrow_1).before #[Value.ref b] s = true) (hA : ∀ a : Nat, a < s.heap.size → ¬ A a) : ∃ q : Nat × Nat, (Term.string "TimberValleyModel" 354).eval #[Value.ref b] s none [] s = some (.ref q.1) ∧ va_O "java/lang/String" q.1 A s s.heap ∧ va_OF "java/lang/String" "coder" "B" (.int 0) q.1 A s s.heap ∧ va_OF "java/lang/String" "value" "[B" (.ref q.2) q.1 A s s.heap ∧ va_T .byte q.2 (strL.getD 16 0) (fun j => .int ((strB.getD 16 []).getD j 0)) A s s.heap := by
  obtain ⟨adK, adV, h, he⟩ := vk_Sof (N := 1) (tm := fun _ => (Term.string "TimberValleyModel" 354)) (len := [4]) (byt := [[115, 111, 114, 116]]) (A := A) (args := #[Value.ref b]) (s := s) (fun i hi => by rw [show i = 0 by omega]; decide) (fun i _ => gvn hgv 266 rfl) (fun i _ => gvn hgv 267 rfl) (fun i _ => gvn hgv 268 rfl) (fun i hi => by rw [show i = 0 by omega]; exact gvn hgv 269 rfl) (fun i hi j hj => by obtain rfl : i = 0 := (by omega); exact gvn hgv (270 + j) (pS_16 j hj)) (fun i j hi hj hn => absurd (by omega) hn) hA
  exact ⟨(adK 0, adV 0), he 0 (by decide), h.1 0 (by decide)⟩
theorem pS_17 : ∀ j, j < 5 → gvL[278 + j]? = some (Cond.eq (.elem (.field (Term.string "TimberValleyModel" 356) "java/lang/String" "value" "[B") (.int (Int32.ofNat j))) (.int (([99, 108, 97, 115, 115] : List Int32).getD j 0))) := by decide +kernel
theorem sS_17 {b : Nat} {s : State} {A : Nat → Prop} (hgv : (Jvm.Cond.and given_1 narrow_1).before #[Value.ref b] s = true) (hA : ∀ a : Nat, a < s.heap.size → ¬ A a) : ∃ q : Nat × Nat, (Term.string "TimberValleyModel" 356).eval #[Value.ref b] s none [] s = some (.ref q.1) ∧ va_O "java/lang/String" q.1 A s s.heap ∧ va_OF "java/lang/String" "coder" "B" (.int 0) q.1 A s s.heap ∧ va_OF "java/lang/String" "value" "[B" (.ref q.2) q.1 A s s.heap ∧ va_T .byte q.2 (strL.getD 17 0) (fun j => .int ((strB.getD 17 []).getD j 0)) A s s.heap := by
  obtain ⟨adK, adV, h, he⟩ := vk_Sof (N := 1) (tm := fun _ => (Term.string "TimberValleyModel" 356)) (len := [5]) (byt := [[99, 108, 97, 115, 115]]) (A := A) (args := #[Value.ref b]) (s := s) (fun i hi => by rw [show i = 0 by omega]; decide) (fun i _ => gvn hgv 274 rfl) (fun i _ => gvn hgv 275 rfl) (fun i _ => gvn hgv 276 rfl) (fun i hi => by rw [show i = 0 by omega]; exact gvn hgv 277 rfl) (fun i hi j hj => by obtain rfl : i = 0 := (by omega); exact gvn hgv (278 + j) (pS_17 j hj)) (fun i j hi hj hn => absurd (by omega) hn) hA
  exact ⟨(adK 0, adV 0), he 0 (by decide), h.1 0 (by decide)⟩
theorem pS_18 : ∀ j, j < 6 → gvL[287 + j]? = some (Cond.eq (.elem (.field (Term.string "TimberValleyModel" 358) "java/lang/String" "value" "[B") (.int (Int32.ofNat j))) (.int (([115, 101, 97, 115, 111, 110] : List Int32).getD j 0))) := by decide +kernel
theorem sS_18 {b : Nat} {s : State} {A : Nat → Prop} (hgv : (Jvm.Cond.and given_1 narrow_1).before #[Value.ref b] s = true) (hA : ∀ a : Nat, a < s.heap.size → ¬ A a) : ∃ q : Nat × Nat, (Term.string "TimberValleyModel" 358).eval #[Value.ref b] s none [] s = some (.ref q.1) ∧ va_O "java/lang/String" q.1 A s s.heap ∧ va_OF "java/lang/String" "coder" "B" (.int 0) q.1 A s s.heap ∧ va_OF "java/lang/String" "value" "[B" (.ref q.2) q.1 A s s.heap ∧ va_T .byte q.2 (strL.getD 18 0) (fun j => .int ((strB.getD 18 []).getD j 0)) A s s.heap := by
  obtain ⟨adK, adV, h, he⟩ := vk_Sof (N := 1) (tm := fun _ => (Term.string "TimberValleyModel" 358)) (len := [6]) (byt := [[115, 101, 97, 115, 111, 110]]) (A := A) (args := #[Value.ref b]) (s := s) (fun i hi => by rw [show i = 0 by omega]; decide) (fun i _ => gvn hgv 283 rfl) (fun i _ => gvn hgv 284 rfl) (fun i _ => gvn hgv 285 rfl) (fun i hi => by rw [show i = 0 by omega]; exact gvn hgv 286 rfl) (fun i hi j hj => by obtain rfl : i = 0 := (by omega); exact gvn hgv (287 + j) (pS_18 j hj)) (fun i j hi hj hn => absurd (by omega) hn) hA
  exact ⟨(adK 0, adV 0), he 0 (by decide), h.1 0 (by decide)⟩
theorem pS_19 : ∀ j, j < 3 → gvL[297 + j]? = some (Cond.eq (.elem (.field (Term.string "TimberValleyModel" 360) "java/lang/String" "value" "[B") (.int (Int32.ofNat j))) (.int (([100, 97, 121] : List Int32).getD j 0))) := by decide +kernel
theorem sS_19 {b : Nat} {s : State} {A : Nat → Prop} (hgv : (Jvm.Cond.and given_1 narrow_1).before #[Value.ref b] s = true) (hA : ∀ a : Nat, a < s.heap.size → ¬ A a) : ∃ q : Nat × Nat, (Term.string "TimberValleyModel" 360).eval #[Value.ref b] s none [] s = some (.ref q.1) ∧ va_O "java/lang/String" q.1 A s s.heap ∧ va_OF "java/lang/String" "coder" "B" (.int 0) q.1 A s s.heap ∧ va_OF "java/lang/String" "value" "[B" (.ref q.2) q.1 A s s.heap ∧ va_T .byte q.2 (strL.getD 19 0) (fun j => .int ((strB.getD 19 []).getD j 0)) A s s.heap := by
  obtain ⟨adK, adV, h, he⟩ := vk_Sof (N := 1) (tm := fun _ => (Term.string "TimberValleyModel" 360)) (len := [3]) (byt := [[100, 97, 121]]) (A := A) (args := #[Value.ref b]) (s := s) (fun i hi => by rw [show i = 0 by omega]; decide) (fun i _ => gvn hgv 293 rfl) (fun i _ => gvn hgv 294 rfl) (fun i _ => gvn hgv 295 rfl) (fun i hi => by rw [show i = 0 by omega]; exact gvn hgv 296 rfl) (fun i hi j hj => by obtain rfl : i = 0 := (by omega); exact gvn hgv (297 + j) (pS_19 j hj)) (fun i j hi hj hn => absurd (by omega) hn) hA
  exact ⟨(adK 0, adV 0), he 0 (by decide), h.1 0 (by decide)⟩
theorem pS_20 : ∀ j, j < 4 → gvL[304 + j]? = some (Cond.eq (.elem (.field (Term.string "TimberValleyModel" 362) "java/lang/String" "value" "[B") (.int (Int32.ofNat j))) (.int (([115, 110, 111, 119] : List Int32).getD j 0))) := by decide +kernel
theorem sS_20 {b : Nat} {s : State} {A : Nat → Prop} (hgv : (Jvm.Cond.and given_1 narrow_1).before #[Value.ref b] s = true) (hA : ∀ a : Nat, a < s.heap.size → ¬ A a) : ∃ q : Nat × Nat, (Term.string "TimberValleyModel" 362).eval #[Value.ref b] s none [] s = some (.ref q.1) ∧ va_O "java/lang/String" q.1 A s s.heap ∧ va_OF "java/lang/String" "coder" "B" (.int 0) q.1 A s s.heap ∧ va_OF "java/lang/String" "value" "[B" (.ref q.2) q.1 A s s.heap ∧ va_T .byte q.2 (strL.getD 20 0) (fun j => .int ((strB.getD 20 []).getD j 0)) A s s.heap := by
  obtain ⟨adK, adV, h, he⟩ := vk_Sof (N := 1) (tm := fun _ => (Term.string "TimberValleyModel" 362)) (len := [4]) (byt := [[115, 110, 111, 119]]) (A := A) (args := #[Value.ref b]) (s := s) (fun i hi => by rw [show i = 0 by omega]; decide) (fun i _ => gvn hgv 300 rfl) (fun i _ => gvn hgv 301 rfl) (fun i _ => gvn hgv 302 rfl) (fun i hi => by rw [show i = 0 by omega]; exact gvn hgv 303 rfl) (fun i hi j hj => by obtain rfl : i = 0 := (by omega); exact gvn hgv (304 + j) (pS_20 j hj)) (fun i j hi hj hn => absurd (by omega) hn) hA
  exact ⟨(adK 0, adV 0), he 0 (by decide), h.1 0 (by decide)⟩
theorem pS_21 : ∀ j, j < 5 → gvL[312 + j]? = some (Cond.eq (.elem (.field (Term.string "TimberValleyModel" 364) "java/lang/String" "value" "[B") (.int (Int32.ofNat j))) (.int (([119, 97, 116, 101, 114] : List Int32).getD j 0))) := by decide +kernel
theorem sS_21 {b : Nat} {s : State} {A : Nat → Prop} (hgv : (Jvm.Cond.and given_1 narrow_1).before #[Value.ref b] s = true) (hA : ∀ a : Nat, a < s.heap.size → ¬ A a) : ∃ q : Nat × Nat, (Term.string "TimberValleyModel" 364).eval #[Value.ref b] s none [] s = some (.ref q.1) ∧ va_O "java/lang/String" q.1 A s s.heap ∧ va_OF "java/lang/String" "coder" "B" (.int 0) q.1 A s s.heap ∧ va_OF "java/lang/String" "value" "[B" (.ref q.2) q.1 A s s.heap ∧ va_T .byte q.2 (strL.getD 21 0) (fun j => .int ((strB.getD 21 []).getD j 0)) A s s.heap := by
  obtain ⟨adK, adV, h, he⟩ := vk_Sof (N := 1) (tm := fun _ => (Term.string "TimberValleyModel" 364)) (len := [5]) (byt := [[119, 97, 116, 101, 114]]) (A := A) (args := #[Value.ref b]) (s := s) (fun i hi => by rw [show i = 0 by omega]; decide) (fun i _ => gvn hgv 308 rfl) (fun i _ => gvn hgv 309 rfl) (fun i _ => gvn hgv 310 rfl) (fun i hi => by rw [show i = 0 by omega]; exact gvn hgv 311 rfl) (fun i hi j hj => by obtain rfl : i = 0 := (by omega); exact gvn hgv (312 + j) (pS_21 j hj)) (fun i j hi hj hn => absurd (by omega) hn) hA
  exact ⟨(adK 0, adV 0), he 0 (by decide), h.1 0 (by decide)⟩
theorem pS_22 : ∀ j, j < 3 → gvL[321 + j]? = some (Cond.eq (.elem (.field (Term.string "TimberValleyModel" 366) "java/lang/String" "value" "[B") (.int (Int32.ofNat j))) (.int (([100, 114, 121] : List Int32).getD j 0))) := by decide +kernel
theorem sS_22 {b : Nat} {s : State} {A : Nat → Prop} (hgv : (Jvm.Cond.and given_1 narrow_1).before #[Value.ref b] s = true) (hA : ∀ a : Nat, a < s.heap.size → ¬ A a) : ∃ q : Nat × Nat, (Term.string "TimberValleyModel" 366).eval #[Value.ref b] s none [] s = some (.ref q.1) ∧ va_O "java/lang/String" q.1 A s s.heap ∧ va_OF "java/lang/String" "coder" "B" (.int 0) q.1 A s s.heap ∧ va_OF "java/lang/String" "value" "[B" (.ref q.2) q.1 A s s.heap ∧ va_T .byte q.2 (strL.getD 22 0) (fun j => .int ((strB.getD 22 []).getD j 0)) A s s.heap := by
  obtain ⟨adK, adV, h, he⟩ := vk_Sof (N := 1) (tm := fun _ => (Term.string "TimberValleyModel" 366)) (len := [3]) (byt := [[100, 114, 121]]) (A := A) (args := #[Value.ref b]) (s := s) (fun i hi => by rw [show i = 0 by omega]; decide) (fun i _ => gvn hgv 317 rfl) (fun i _ => gvn hgv 318 rfl) (fun i _ => gvn hgv 319 rfl) (fun i hi => by rw [show i = 0 by omega]; exact gvn hgv 320 rfl) (fun i hi j hj => by obtain rfl : i = 0 := (by omega); exact gvn hgv (321 + j) (pS_22 j hj)) (fun i j hi hj hn => absurd (by omega) hn) hA
  exact ⟨(adK 0, adV 0), he 0 (by decide), h.1 0 (by decide)⟩
theorem pS_23 : ∀ j, j < 3 → gvL[328 + j]? = some (Cond.eq (.elem (.field (Term.string "TimberValleyModel" 368) "java/lang/String" "value" "[B") (.int (Int32.ofNat j))) (.int (([102, 97, 114] : List Int32).getD j 0))) := by decide +kernel
theorem sS_23 {b : Nat} {s : State} {A : Nat → Prop} (hgv : (Jvm.Cond.and given_1 narrow_1).before #[Value.ref b] s = true) (hA : ∀ a : Nat, a < s.heap.size → ¬ A a) : ∃ q : Nat × Nat, (Term.string "TimberValleyModel" 368).eval #[Value.ref b] s none [] s = some (.ref q.1) ∧ va_O "java/lang/String" q.1 A s s.heap ∧ va_OF "java/lang/String" "coder" "B" (.int 0) q.1 A s s.heap ∧ va_OF "java/lang/String" "value" "[B" (.ref q.2) q.1 A s s.heap ∧ va_T .byte q.2 (strL.getD 23 0) (fun j => .int ((strB.getD 23 []).getD j 0)) A s s.heap := by
  obtain ⟨adK, adV, h, he⟩ := vk_Sof (N := 1) (tm := fun _ => (Term.string "TimberValleyModel" 368)) (len := [3]) (byt := [[102, 97, 114]]) (A := A) (args := #[Value.ref b]) (s := s) (fun i hi => by rw [show i = 0 by omega]; decide) (fun i _ => gvn hgv 324 rfl) (fun i _ => gvn hgv 325 rfl) (fun i _ => gvn hgv 326 rfl) (fun i hi => by rw [show i = 0 by omega]; exact gvn hgv 327 rfl) (fun i hi j hj => by obtain rfl : i = 0 := (by omega); exact gvn hgv (328 + j) (pS_23 j hj)) (fun i j hi hj hn => absurd (by omega) hn) hA
  exact ⟨(adK 0, adV 0), he 0 (by decide), h.1 0 (by decide)⟩
theorem pS_24 : ∀ j, j < 5 → gvL[335 + j]? = some (Cond.eq (.elem (.field (Term.string "TimberValleyModel" 370) "java/lang/String" "value" "[B") (.int (Int32.ofNat j))) (.int (([115, 108, 97, 115, 104] : List Int32).getD j 0))) := by decide +kernel
theorem sS_24 {b : Nat} {s : State} {A : Nat → Prop} (hgv : (Jvm.Cond.and given_1 narrow_1).before #[Value.ref b] s = true) (hA : ∀ a : Nat, a < s.heap.size → ¬ A a) : ∃ q : Nat × Nat, (Term.string "TimberValleyModel" 370).eval #[Value.ref b] s none [] s = some (.ref q.1) ∧ va_O "java/lang/String" q.1 A s s.heap ∧ va_OF "java/lang/String" "coder" "B" (.int 0) q.1 A s s.heap ∧ va_OF "java/lang/String" "value" "[B" (.ref q.2) q.1 A s s.heap ∧ va_T .byte q.2 (strL.getD 24 0) (fun j => .int ((strB.getD 24 []).getD j 0)) A s s.heap := by
  obtain ⟨adK, adV, h, he⟩ := vk_Sof (N := 1) (tm := fun _ => (Term.string "TimberValleyModel" 370)) (len := [5]) (byt := [[115, 108, 97, 115, 104]]) (A := A) (args := #[Value.ref b]) (s := s) (fun i hi => by rw [show i = 0 by omega]; decide) (fun i _ => gvn hgv 331 rfl) (fun i _ => gvn hgv 332 rfl) (fun i _ => gvn hgv 333 rfl) (fun i hi => by rw [show i = 0 by omega]; exact gvn hgv 334 rfl) (fun i hi j hj => by obtain rfl : i = 0 := (by omega); exact gvn hgv (335 + j) (pS_24 j hj)) (fun i j hi hj hn => absurd (by omega) hn) hA
  exact ⟨(adK 0, adV 0), he 0 (by decide), h.1 0 (by decide)⟩
theorem pS_25 : ∀ j, j < 4 → gvL[344 + j]? = some (Cond.eq (.elem (.field (Term.string "TimberValleyModel" 371) "java/lang/String" "value" "[B") (.int (Int32.ofNat j))) (.int (([99, 114, 101, 119] : List Int32).getD j 0))) := by decide +kernel
theorem sS_25 {b : Nat} {s : State} {A : Nat → Prop} (hgv : (Jvm.Cond.and given_1 narrow_1).before #[Value.ref b] s = true) (hA : ∀ a : Nat, a < s.heap.size → ¬ A a) : ∃ q : Nat × Nat, (Term.string "TimberValleyModel" 371).eval #[Value.ref b] s none [] s = some (.ref q.1) ∧ va_O "java/lang/String" q.1 A s s.heap ∧ va_OF "java/lang/String" "coder" "B" (.int 0) q.1 A s s.heap ∧ va_OF "java/lang/String" "value" "[B" (.ref q.2) q.1 A s s.heap ∧ va_T .byte q.2 (strL.getD 25 0) (fun j => .int ((strB.getD 25 []).getD j 0)) A s s.heap := by
  obtain ⟨adK, adV, h, he⟩ := vk_Sof (N := 1) (tm := fun _ => (Term.string "TimberValleyModel" 371)) (len := [4]) (byt := [[99, 114, 101, 119]]) (A := A) (args := #[Value.ref b]) (s := s) (fun i hi => by rw [show i = 0 by omega]; decide) (fun i _ => gvn hgv 340 rfl) (fun i _ => gvn hgv 341 rfl) (fun i _ => gvn hgv 342 rfl) (fun i hi => by rw [show i = 0 by omega]; exact gvn hgv 343 rfl) (fun i hi j hj => by obtain rfl : i = 0 := (by omega); exact gvn hgv (344 + j) (pS_25 j hj)) (fun i j hi hj hn => absurd (by omega) hn) hA
  exact ⟨(adK 0, adV 0), he 0 (by decide), h.1 0 (by decide)⟩
theorem pS_26 : ∀ j, j < 3 → gvL[352 + j]? = some (Cond.eq (.elem (.field (Term.string "TimberValleyModel" 373) "java/lang/String" "value" "[B") (.int (Int32.ofNat j))) (.int (([119, 97, 121] : List Int32).getD j 0))) := by decide +kernel
theorem sS_26 {b : Nat} {s : State} {A : Nat → Prop} (hgv : (Jvm.Cond.and given_1 narrow_1).before #[Value.ref b] s = true) (hA : ∀ a : Nat, a < s.heap.size → ¬ A a) : ∃ q : Nat × Nat, (Term.string "TimberValleyModel" 373).eval #[Value.ref b] s none [] s = some (.ref q.1) ∧ va_O "java/lang/String" q.1 A s s.heap ∧ va_OF "java/lang/String" "coder" "B" (.int 0) q.1 A s s.heap ∧ va_OF "java/lang/String" "value" "[B" (.ref q.2) q.1 A s s.heap ∧ va_T .byte q.2 (strL.getD 26 0) (fun j => .int ((strB.getD 26 []).getD j 0)) A s s.heap := by
  obtain ⟨adK, adV, h, he⟩ := vk_Sof (N := 1) (tm := fun _ => (Term.string "TimberValleyModel" 373)) (len := [3]) (byt := [[119, 97, 121]]) (A := A) (args := #[Value.ref b]) (s := s) (fun i hi => by rw [show i = 0 by omega]; decide) (fun i _ => gvn hgv 348 rfl) (fun i _ => gvn hgv 349 rfl) (fun i _ => gvn hgv 350 rfl) (fun i hi => by rw [show i = 0 by omega]; exact gvn hgv 351 rfl) (fun i hi j hj => by obtain rfl : i = 0 := (by omega); exact gvn hgv (352 + j) (pS_26 j hj)) (fun i j hi hj hn => absurd (by omega) hn) hA
  exact ⟨(adK 0, adV 0), he 0 (by decide), h.1 0 (by decide)⟩
def tmS : List Term := [(Term.string "TimberValley$Tape" 48), (Term.string "TimberValley$Statutes" 119), (Term.string "TimberValley$Statutes" 83), (Term.string "TimberValley$Statutes" 96), (Term.string "TimberValley$Statutes" 124), (Term.string "TimberValley$Statutes" 105), (Term.string "TimberValley$Statutes" 136), (Term.string "TimberValleyModel" 399), (Term.string "TimberValleyModel" 401), (Term.string "TimberValleyModel" 403), (Term.string "TimberValleyModel" 405), (Term.string "TimberValleyModel" 410), (Term.string "TimberValleyModel" 412), (Term.string "TimberValleyModel" 414), (Term.string "TimberValleyModel" 351), (Term.string "TimberValleyModel" 353), (Term.string "TimberValleyModel" 354), (Term.string "TimberValleyModel" 356), (Term.string "TimberValleyModel" 358), (Term.string "TimberValleyModel" 360), (Term.string "TimberValleyModel" 362), (Term.string "TimberValleyModel" 364), (Term.string "TimberValleyModel" 366), (Term.string "TimberValleyModel" 368), (Term.string "TimberValleyModel" 370), (Term.string "TimberValleyModel" 371), (Term.string "TimberValleyModel" 373)]
theorem strNe : ∀ i, i < 27 → ∀ j, j < 27 → Int32.ofNat (strL.getD i 0) = Int32.ofNat (strL.getD j 0) → strL.getD i 0 = strL.getD j 0 := by decide +kernel
theorem strInj : ∀ i, i < 27 → ∀ j, j < 27 → strL.getD i 0 = strL.getD j 0 → (∀ k, k < strL.getD i 0 → (strB.getD i []).getD k 0 = (strB.getD j []).getD k 0) → i = j := by decide +kernel
theorem va_OF_eq {o n d : String} {v w : Value} {t : Nat} {A : Nat → Prop} {U : State} {H : Heap} (h1 : va_OF o n d v t A U H) (h2 : va_OF o n d w t A U H) : v = w := by
  obtain ⟨cf, k, i, f, cell, a1, a2, a3, a4, a5, a6⟩ := h1
  obtain ⟨cf', k', i', f', cell', b1, b2, b3, b4, b5, b6⟩ := h2
  have e := Option.some.inj (a1.symm.trans b1)
  have ef : f = f' := (Prod.mk.inj (Prod.mk.inj (Prod.mk.inj e).2).2).2
  have ec : cell = cell' := Option.some.inj (a3.symm.trans b3)
  rw [← ef, ← ec] at b5
  exact Option.some.inj (a5.symm.trans b5)
theorem va_T_eq {ty : FieldType} {t N N' : Nat} {f g : Nat → Value} {A : Nat → Prop} {U : State} {H : Heap} (h1 : va_T ty t N f A U H) (h2 : va_T ty t N' g A U H) : Int32.ofNat N = Int32.ofNat N' ∧ ∀ j, j < N → j < N' → f j = g j := by
  obtain ⟨cell, a1, a2, a3, a4, a5, a6, a7⟩ := h1
  obtain ⟨cell', b1, b2, b3, b4, b5, b6, b7⟩ := h2
  have ec : cell = cell' := Option.some.inj (a1.symm.trans b1)
  subst ec
  exact ⟨a5.symm.trans b5, fun j h h' => Option.some.inj ((a6 j h).symm.trans (b6 j h'))⟩
def FS (b : Nat) (s : State) (A : Nat → Prop) (i : Nat) (q : Nat × Nat) : Prop := (tmS.getD i (.int 0)).eval #[Value.ref b] s none [] s = some (.ref q.1) ∧ va_O "java/lang/String" q.1 A s s.heap ∧ va_OF "java/lang/String" "coder" "B" (.int 0) q.1 A s s.heap ∧ va_OF "java/lang/String" "value" "[B" (.ref q.2) q.1 A s s.heap ∧ va_T .byte q.2 (strL.getD i 0) (fun j => .int ((strB.getD i []).getD j 0)) A s s.heap
theorem FS_inj {b : Nat} {s : State} {A : Nat → Prop} {i j : Nat} {q r : Nat × Nat} (hi : i < 27) (hj : j < 27) (h1 : FS b s A i q) (h2 : FS b s A j r) (e : q.1 = r.1) : i = j := by
  obtain ⟨-, -, -, a4, a5⟩ := h1
  obtain ⟨-, -, -, b4, b5⟩ := h2
  rw [← e] at b4
  have e2 : q.2 = r.2 := by
    have := va_OF_eq a4 b4
    exact Value.ref.inj this
  rw [← e2] at b5
  obtain ⟨c1, c2⟩ := va_T_eq a5 b5
  have e3 := strNe i hi j hj c1
  exact strInj i hi j hj e3 (fun k hk => Value.int.inj (c2 k hk (by rw [← e3]; exact hk)))
theorem FS_all {b : Nat} {s : State} {A : Nat → Prop} (hgv : (Jvm.Cond.and given_1 narrow_1).before #[Value.ref b] s = true) (hA : ∀ a : Nat, a < s.heap.size → ¬ A a) : ∀ i : Nat, ∃ q : Nat × Nat, i < 27 → FS b s A i q
  | 0 => by
    obtain ⟨q, h⟩ := sS_0 hgv hA
    exact ⟨q, fun _ => h⟩
  | 1 => by
    obtain ⟨q, h⟩ := sS_1 hgv hA
    exact ⟨q, fun _ => h⟩
  | 2 => by
    obtain ⟨q, h⟩ := sS_2 hgv hA
    exact ⟨q, fun _ => h⟩
  | 3 => by
    obtain ⟨q, h⟩ := sS_3 hgv hA
    exact ⟨q, fun _ => h⟩
  | 4 => by
    obtain ⟨q, h⟩ := sS_4 hgv hA
    exact ⟨q, fun _ => h⟩
  | 5 => by
    obtain ⟨q, h⟩ := sS_5 hgv hA
    exact ⟨q, fun _ => h⟩
  | 6 => by
    obtain ⟨q, h⟩ := sS_6 hgv hA
    exact ⟨q, fun _ => h⟩
  | 7 => by
    obtain ⟨q, h⟩ := sS_7 hgv hA
    exact ⟨q, fun _ => h⟩
  | 8 => by
    obtain ⟨q, h⟩ := sS_8 hgv hA
    exact ⟨q, fun _ => h⟩
  | 9 => by
    obtain ⟨q, h⟩ := sS_9 hgv hA
    exact ⟨q, fun _ => h⟩
  | 10 => by
    obtain ⟨q, h⟩ := sS_10 hgv hA
    exact ⟨q, fun _ => h⟩
  | 11 => by
    obtain ⟨q, h⟩ := sS_11 hgv hA
    exact ⟨q, fun _ => h⟩
  | 12 => by
    obtain ⟨q, h⟩ := sS_12 hgv hA
    exact ⟨q, fun _ => h⟩
  | 13 => by
    obtain ⟨q, h⟩ := sS_13 hgv hA
    exact ⟨q, fun _ => h⟩
  | 14 => by
    obtain ⟨q, h⟩ := sS_14 hgv hA
    exact ⟨q, fun _ => h⟩
  | 15 => by
    obtain ⟨q, h⟩ := sS_15 hgv hA
    exact ⟨q, fun _ => h⟩
  | 16 => by
    obtain ⟨q, h⟩ := sS_16 hgv hA
    exact ⟨q, fun _ => h⟩
  | 17 => by
    obtain ⟨q, h⟩ := sS_17 hgv hA
    exact ⟨q, fun _ => h⟩
  | 18 => by
    obtain ⟨q, h⟩ := sS_18 hgv hA
    exact ⟨q, fun _ => h⟩
  | 19 => by
    obtain ⟨q, h⟩ := sS_19 hgv hA
    exact ⟨q, fun _ => h⟩
  | 20 => by
    obtain ⟨q, h⟩ := sS_20 hgv hA
    exact ⟨q, fun _ => h⟩
  | 21 => by
    obtain ⟨q, h⟩ := sS_21 hgv hA
    exact ⟨q, fun _ => h⟩
  | 22 => by
    obtain ⟨q, h⟩ := sS_22 hgv hA
    exact ⟨q, fun _ => h⟩
  | 23 => by
    obtain ⟨q, h⟩ := sS_23 hgv hA
    exact ⟨q, fun _ => h⟩
  | 24 => by
    obtain ⟨q, h⟩ := sS_24 hgv hA
    exact ⟨q, fun _ => h⟩
  | 25 => by
    obtain ⟨q, h⟩ := sS_25 hgv hA
    exact ⟨q, fun _ => h⟩
  | 26 => by
    obtain ⟨q, h⟩ := sS_26 hgv hA
    exact ⟨q, fun _ => h⟩
  | n + 27 => ⟨(0, 0), fun h => absurd h (by omega)⟩
def ctF (cs : Nat → ClassId) (t0 t1 z0 z1 : Nat) (q : Nat → Nat × Nat) : Nat → ClassId := fun k => if k < 8 then cs k else if k < 1001 then t0 else if k < 1002 then t1 else if k < 1003 then z0 else if k < 1004 then z1 else if k < 3000 then (q (k - 2000)).1 else (q (k - 3000)).2
theorem ctF_2 {cs : Nat → ClassId} {t0 t1 z0 z1 : Nat} {q : Nat → Nat × Nat} {i : Nat} (h : i < 1000) : ctF cs t0 t1 z0 z1 q (2000 + i) = (q i).1 := by
  unfold ctF
  rw [if_neg (by omega), if_neg (by omega), if_neg (by omega), if_neg (by omega), if_neg (by omega), if_pos (by omega), Nat.add_sub_cancel_left]
theorem ctF_3 {cs : Nat → ClassId} {t0 t1 z0 z1 : Nat} {q : Nat → Nat × Nat} {i : Nat} : ctF cs t0 t1 z0 z1 q (3000 + i) = (q i).2 := by
  unfold ctF
  rw [if_neg (by omega), if_neg (by omega), if_neg (by omega), if_neg (by omega), if_neg (by omega), if_neg (by omega), Nat.add_sub_cancel_left]
theorem pT_0 : ∀ j, j < 3 → gvL[7 + j]? = some (Cond.eq (.elem (Term.static "TimberValley$Sky" "AT_FIRST" "[I") (.int (Int32.ofNat j))) (.int (([0, 5, 3] : List Int32).getD j 0))) := by decide +kernel
theorem pT_1 : ∀ j, j < 4 → gvL[13 + j]? = some (Cond.eq (.elem (Term.static "TimberValley$Statutes" "WITHOUT" "[I") (.int (Int32.ofNat j))) (.int (([-1, 2, 50, 5] : List Int32).getD j 0))) := by decide +kernel
theorem ev_eq {a c : Term} {A : Array Value} {s : State} {v : Value} (h : (Cond.eq a c).before A s = true) (hv : a.eval A s none [] s = some v) : c.eval A s none [] s = some v := by
  obtain ⟨y, h1, h2⟩ := Cond.eq_one (show (Cond.eq a c).holds A s none s [] = true from h)
  rw [← hv, h1]
  exact h2
set_option maxRecDepth 100000 in
set_option maxHeartbeats 4000000 in
theorem tx0 {b : Nat} {s : State} (hgv : (Jvm.Cond.and given_1 narrow_1).before #[Value.ref b] s = true) (hts : ∀ w ∈ lw_tbl, w.before #[Value.ref b] s = true) (cs : Nat → ClassId) : ∃ ct : Nat → ClassId, (∀ k, k < 8 → ct k = cs k) ∧ Tx ct s.heap.size s := by
  have hA : ∀ a : Nat, a < s.heap.size → ¬ AA s.heap.size a := fun a h q => Nat.not_le.mpr h q
  obtain ⟨t0, ht0, hT0⟩ := va_Tof (args := #[Value.ref b]) (s := s) (tm := (Term.static "TimberValley$Sky" "AT_FIRST" "[I")) (ty := .int) (N := 3) (f := fun j => .int (([0, 5, 3] : List Int32).getD j 0)) (A := AA s.heap.size) (by decide) (gvn hgv 5 rfl) (va_eqt (gvn hgv 6 rfl)) (fun j hj => va_eqt (gvn hgv (7 + j) (pT_0 j hj))) hA
  obtain ⟨t1, ht1, hT1⟩ := va_Tof (args := #[Value.ref b]) (s := s) (tm := (Term.static "TimberValley$Statutes" "WITHOUT" "[I")) (ty := .int) (N := 4) (f := fun j => .int (([-1, 2, 50, 5] : List Int32).getD j 0)) (A := AA s.heap.size) (by decide) (gvn hgv 11 rfl) (va_eqt (gvn hgv 12 rfl)) (fun j hj => va_eqt (gvn hgv (13 + j) (pT_1 j hj))) hA
  have hZ0 := va_Zof (hts _ (lt_2 217 rfl)) (hts _ (lt_1 2 rfl)) ht0 hA
  have hZ1 := va_Zof (hts _ (lt_3 96 rfl)) (hts _ (lt_1 6 rfl)) ht1 hA
  have hZ2 := va_Zof (A := AA s.heap.size) (hts _ (lt_4 158 rfl)) (hts _ (lt_1 14 rfl)) (va_eqt (z := 1) (gvn hgv 17 rfl)) hA
  have hZ3 := va_Zqof (A := AA s.heap.size) (hts _ (lt_4 197 rfl)) (hts _ (lt_1 17 rfl)) (gvn hgv 18 rfl) hA
  obtain ⟨ad, had⟩ := Classical.axiomOfChoice (FS_all hgv hA)
  obtain ⟨z2, z3, hz⟩ : ∃ z2 z3 : Nat, va_Z "jdk/internal/util/Preconditions" "SIOOBE_FORMATTER" "Ljava/util/function/BiFunction;" (if z2 = 0 then Value.null else .ref z3) (AA s.heap.size) s s.heap := by
    rcases hZ3 with h | ⟨t, h⟩
    · exact ⟨0, 0, by rw [if_pos rfl]; exact h⟩
    · exact ⟨1, t, by rw [if_neg (by decide)]; exact h⟩
  obtain ⟨ct, ect⟩ : ∃ ct, ct = ctF cs t0 t1 z2 z3 ad := ⟨_, rfl⟩
  have c2 : ∀ i, i < 1000 → ct (2000 + i) = (ad i).1 := fun i hi => by rw [ect]; exact ctF_2 hi
  have c3 : ∀ i, ct (3000 + i) = (ad i).2 := fun i => by rw [ect]; exact ctF_3
  have k0 : ct 1000 = t0 := by rw [ect]; rfl
  have k1 : ct 1001 = t1 := by rw [ect]; rfl
  have k2 : ct 1002 = z2 := by rw [ect]; rfl
  have k3 : ct 1003 = z3 := by rw [ect]; rfl
  refine ⟨ct, fun k hk => by rw [ect]; exact if_pos hk, ⟨by rw [k0]; exact hZ0, by rw [k0]; exact hT0⟩, ⟨by rw [k1]; exact hZ1, by rw [k1]; exact hT1⟩, hZ2, ⟨fun i hi => ?_, fun i j hi hj e => ?_⟩, ?_, ?_⟩
  · have h := had i hi
    show va_O _ (ct (2000 + i)) _ _ _ ∧ va_OF _ _ _ _ (ct (2000 + i)) _ _ _ ∧ va_OF _ _ _ (.ref (ct (3000 + i))) (ct (2000 + i)) _ _ _ ∧ va_T _ (ct (3000 + i)) _ _ _ _ _
    rw [c2 i (by omega), c3 i]
    exact h.2
  · have e2 : (ad i).1 = (ad j).1 := by
      rw [← c2 i (by omega), ← c2 j (by omega)]
      exact e
    exact FS_inj hi hj (had i hi) (had j hj) e2
  · unfold fvv
    rw [k2, k3]
    exact hz
  · exact ⟨vk_R.of (A := #[Value.ref b]) (hts _ (lt_5 37 rfl)) (by rw [c2 2 (by decide)]; exact (had 2 (by decide)).1), vk_R.of (A := #[Value.ref b]) (hts _ (lt_5 46 rfl)) (by rw [c2 3 (by decide)]; exact (had 3 (by decide)).1), vk_R.of (A := #[Value.ref b]) (hts _ (lt_5 56 rfl)) (by rw [c2 5 (by decide)]; exact (had 5 (by decide)).1), vk_R.of (A := #[Value.ref b]) (hts _ (lt_4 239 rfl)) (by rw [c2 1 (by decide)]; exact (had 1 (by decide)).1), vk_R.of (A := #[Value.ref b]) (hts _ (lt_5 55 rfl)) (by rw [c2 4 (by decide)]; exact (had 4 (by decide)).1), vk_R.of (A := #[Value.ref b]) (hts _ (lt_5 81 rfl)) (by rw [c2 6 (by decide)]; exact (had 6 (by decide)).1), vk_R.of (A := #[Value.ref b]) (hts _ (lt_4 144 rfl)) (by rw [c2 0 (by decide)]; exact (had 0 (by decide)).1), vk_R.of (A := #[Value.ref b]) (hts _ (lt_9 73 rfl)) (by rw [c2 14 (by decide)]; exact (had 14 (by decide)).1), vk_R.of (A := #[Value.ref b]) (hts _ (lt_9 74 rfl)) (by rw [c2 15 (by decide)]; exact (had 15 (by decide)).1), vk_R.of (A := #[Value.ref b]) (hts _ (lt_9 75 rfl)) (by rw [c2 16 (by decide)]; exact (had 16 (by decide)).1), vk_R.of (A := #[Value.ref b]) (hts _ (lt_9 76 rfl)) (by rw [c2 17 (by decide)]; exact (had 17 (by decide)).1), vk_R.of (A := #[Value.ref b]) (hts _ (lt_9 77 rfl)) (by rw [c2 18 (by decide)]; exact (had 18 (by decide)).1), vk_R.of (A := #[Value.ref b]) (hts _ (lt_9 78 rfl)) (by rw [c2 19 (by decide)]; exact (had 19 (by decide)).1), vk_R.of (A := #[Value.ref b]) (hts _ (lt_9 79 rfl)) (by rw [c2 20 (by decide)]; exact (had 20 (by decide)).1), vk_R.of (A := #[Value.ref b]) (hts _ (lt_9 80 rfl)) (by rw [c2 21 (by decide)]; exact (had 21 (by decide)).1), vk_R.of (A := #[Value.ref b]) (hts _ (lt_9 81 rfl)) (by rw [c2 22 (by decide)]; exact (had 22 (by decide)).1), vk_R.of (A := #[Value.ref b]) (hts _ (lt_9 82 rfl)) (by rw [c2 23 (by decide)]; exact (had 23 (by decide)).1), vk_R.of (A := #[Value.ref b]) (hts _ (lt_9 83 rfl)) (by rw [c2 24 (by decide)]; exact (had 24 (by decide)).1), vk_R.of (A := #[Value.ref b]) (hts _ (lt_9 84 rfl)) (by rw [c2 25 (by decide)]; exact (had 25 (by decide)).1), vk_R.of (A := #[Value.ref b]) (hts _ (lt_9 85 rfl)) (by rw [c2 26 (by decide)]; exact (had 26 (by decide)).1), vk_R.of (A := #[Value.ref b]) (hts _ (lt_9 65 rfl)) (by rw [c2 4 (by decide)]; exact (ev_eq (gvn hgv 247 rfl) (had 4 (by decide)).1)), vk_R.of (A := #[Value.ref b]) (hts _ (lt_9 90 rfl)) (by rw [c2 6 (by decide)]; exact (ev_eq (gvn hgv 362 rfl) (had 6 (by decide)).1)), vk_R.of (A := #[Value.ref b]) (hts _ (lt_9 43 rfl)) (by rw [c2 7 (by decide)]; exact (had 7 (by decide)).1), vk_R.of (A := #[Value.ref b]) (hts _ (lt_9 50 rfl)) (by rw [c2 8 (by decide)]; exact (had 8 (by decide)).1), vk_R.of (A := #[Value.ref b]) (hts _ (lt_9 51 rfl)) (by rw [c2 9 (by decide)]; exact (had 9 (by decide)).1), vk_R.of (A := #[Value.ref b]) (hts _ (lt_9 52 rfl)) (by rw [c2 10 (by decide)]; exact (had 10 (by decide)).1), vk_R.of (A := #[Value.ref b]) (hts _ (lt_9 57 rfl)) (by rw [c2 11 (by decide)]; exact (had 11 (by decide)).1), vk_R.of (A := #[Value.ref b]) (hts _ (lt_9 58 rfl)) (by rw [c2 12 (by decide)]; exact (had 12 (by decide)).1), vk_R.of (A := #[Value.ref b]) (hts _ (lt_9 59 rfl)) (by rw [c2 13 (by decide)]; exact (had 13 (by decide)).1), vk_R.of (A := #[Value.ref b]) (hts _ (lt_9 60 rfl)) (by rw [c2 3 (by decide)]; exact (ev_eq (gvn hgv 239 rfl) (had 3 (by decide)).1))⟩
theorem zx0 {b : Nat} {s : State} (hgv : (Jvm.Cond.and given_1 narrow_1).before #[Value.ref b] s = true) (hts : ∀ w ∈ lw_tbl, w.before #[Value.ref b] s = true) : Zx s.heap.size s := by
  have hA : ∀ a : Nat, a < s.heap.size → ¬ AA s.heap.size a := fun a h q => Nat.not_le.mpr h q
  exact ⟨vx_Zqof (hts _ (lt_7 21 rfl)) (hts _ (lt_1 20 rfl)) (gvn hgv 22 rfl) hA, vx_Zqof (hts _ (lt_7 23 rfl)) (hts _ (lt_1 20 rfl)) (gvn hgv 23 rfl) hA, va_Nw.of rfl (hts _ (lt_6 236 rfl)), va_Nw.of rfl (hts _ (lt_6 237 rfl)), va_Nw.of rfl (hts _ (lt_6 239 rfl)), va_Nw.of rfl (hts _ (lt_7 1 rfl))⟩
theorem nw0 {A : Array Value} {s : State} (hts : ∀ w ∈ lw_tbl, w.before A s = true) : NW s := by
  intro w hw hn
  cases w <;> first | exact va_Nw.of rfl (hts _ hw) | (exact Bool.noConfusion hn)
theorem ao0 {A : Array Value} {s : State} (hts : ∀ w ∈ lw_tbl, w.before A s = true) : Ao s := ⟨hts _ (lt_2 22 rfl), va_AO.of (hts _ (lt_1 128 rfl)), va_AO.of (hts _ (lt_1 130 rfl)), va_AO.of (hts _ (lt_1 207 rfl))⟩
theorem aK_p {ty : FieldType} {A : Array Value} {s : State} (h : (Cond.arrayClass ty).before A s = true) : ∃ cA, ArrOfT s cA ty ∧ s.vm.findClass ("[" ++ ty.toString) = some cA := by
  obtain ⟨c, k, comp, h1, h2, h3⟩ := Cond.arrayClass_spec (args := A) (first := s) (o := none) (s := s) (idx := []) (show (Cond.arrayClass ty).holds A s none s [] = true from h)
  exact ⟨c, fun n z => ⟨(fun q hq => by cases hq), k, h2, comp, h3⟩, h1⟩
theorem aK_o {C : String} {s : State} (h : va_AO C s) : ∃ cA, ArrOfT s cA (.object C) ∧ va_RA s cA (.object C) := by
  obtain ⟨comp, c, k, h1, h2, h3, h4, h5⟩ := Cond.arrayOver_spec (args := #[]) (first := s) (o := none) (s := s) (idx := []) (show (Cond.arrayOver (.object C)).holds #[] s none s [] = true from h)
  exact ⟨c, fun n z => ⟨(fun q hq => by cases hq), k, h3, comp, h4⟩, k, comp, h3, h4, h1, h5⟩
theorem aK_a {ty : FieldType} {s : State} (h : va_AOA ty s) : ∃ cA, ArrOfT s cA (.array ty) ∧ s.vm.findClass ("[" ++ (FieldType.array ty).toString) = some cA := by
  obtain ⟨comp, c, k, h1, h2, h3, h4⟩ := Cond.arrayOver_specA (args := #[]) (first := s) (o := none) (s := s) (idx := []) (show (Cond.arrayOver (.array ty)).holds #[] s none s [] = true from h)
  exact ⟨c, fun n z => ⟨(fun q hq => by cases hq), k, h2, comp, h3⟩, h4⟩
set_option maxRecDepth 100000 in
set_option maxHeartbeats 4000000 in
theorem vk0 {b : Nat} {s : State} (hts : ∀ w ∈ lw_tbl, w.before #[Value.ref b] s = true) : ∃ (D : va_G) (cs : Nat → ClassId), ∀ ct : Nat → ClassId, (∀ k, k < 8 → ct k = cs k) → va_K D vwCl (tyl ct) s := by
  have hg : ∀ w ∈ gw, w.before #[Value.ref b] s = true := fun w hw => hts w (List.mem_filter.mp hw).1
  obtain ⟨c0, i0, hk0⟩ := u_known (C := RX0) (T := TX0) (N := 5) (n := 5) hg inw_0 (hg _ kw_222)
  obtain ⟨c1, i1, hk1⟩ := u_known (C := RX1) (T := TX1) (N := 5) (n := 5) hg inw_1 (hg _ kw_1183)
  obtain ⟨c2, i2, hk2⟩ := u_known (C := RX2) (T := TX2) (N := 4) (n := 4) hg inw_2 (hg _ kw_440)
  obtain ⟨c3, i3, hk3⟩ := u_known (C := RX3) (T := TX3) (N := 8) (n := 8) hg inw_3 (hg _ kw_180)
  obtain ⟨c4, i4, hk4⟩ := u_known (C := RX4) (T := TX4) (N := 16) (n := 16) hg inw_4 (hg _ kw_700)
  obtain ⟨c5, i5, hk5⟩ := u_known (C := RX5) (T := TX5) (N := 17) (n := 17) hg inw_5 (hg _ kw_375)
  obtain ⟨c6, i6, hk6⟩ := u_known (C := RX6) (T := TX6) (N := 11) (n := 11) hg inw_6 (hg _ kw_328)
  obtain ⟨c7, i7, hk7⟩ := u_known (C := RX7) (T := TX7) (N := 5) (n := 5) hg inw_7 (hg _ kw_154)
  obtain ⟨c8, i8, hk8⟩ := u_known (C := RX8) (T := TX8) (N := 13) (n := 13) hg inw_8 (hg _ kw_276)
  obtain ⟨c9, i9, hk9⟩ := u_known (C := RX9) (T := TX9) (N := 5) (n := 5) hg inw_9 (hg _ kw_251)
  obtain ⟨c10, i10, hk10⟩ := u_known (C := RX10) (T := TX10) (N := 5) (n := 5) hg inw_10 (hg _ kw_813)
  obtain ⟨c11, i11, hk11⟩ := u_known (C := RX11) (T := TX11) (N := 20) (n := 20) hg inw_11 (hg _ kw_146)
  obtain ⟨c12, i12, hk12⟩ := u_known (C := RX12) (T := TX12) (N := 103) (n := 103) hg inw_12 (hg _ kw_1633)
  obtain ⟨d0, e0, f0⟩ := aK_p (hg _ kw_178)
  obtain ⟨d1, e1, f1⟩ := aK_p (hg _ kw_324)
  obtain ⟨d2, e2, f2⟩ := aK_p (hg _ kw_1162)
  obtain ⟨d7, e7, f7⟩ := aK_p (hg _ kw_2455)
  have ha := ao0 hts
  obtain ⟨d3, e3, f3⟩ := aK_o ha.2.1
  obtain ⟨d4, e4, f4⟩ := aK_o ha.2.2.1
  obtain ⟨d5, e5, f5⟩ := aK_o ha.2.2.2
  obtain ⟨d6, e6, f6⟩ := aK_a ha.1
  refine ⟨(fun k => [c0, c1, c2, c3, c4, c5, c6, c7, c8, c9, c10, c11, c12].getD k 0, fun k => [i0, i1, i2, i3, i4, i5, i6, i7, i8, i9, i10, i11, i12].getD k (fun _ => 0)), fun k => [d0, d1, d2, d3, d4, d5, d6, d7].getD k 0, fun ct hct => ⟨fun k q hq => ?_, fun k q hq => ?_⟩⟩
  · match k, hq with
    | 0, hq => cases hq; exact hk0
    | 1, hq => cases hq; exact hk1
    | 2, hq => cases hq; exact hk2
    | 3, hq => cases hq; exact hk3
    | 4, hq => cases hq; exact hk4
    | 5, hq => cases hq; exact hk5
    | 6, hq => cases hq; exact hk6
    | 7, hq => cases hq; exact hk7
    | 8, hq => cases hq; exact hk8
    | 9, hq => cases hq; exact hk9
    | 10, hq => cases hq; exact hk10
    | 11, hq => cases hq; exact hk11
    | 12, hq => cases hq; exact hk12
    | k + 13, hq => exact absurd hq (by simp [vwCl])
  · match k, hq with
    | 0, hq =>
      cases hq
      rw [hct 0 (by decide)]
      exact ⟨e0, f0⟩
    | 1, hq =>
      cases hq
      rw [hct 1 (by decide)]
      exact ⟨e1, f1⟩
    | 2, hq =>
      cases hq
      rw [hct 2 (by decide)]
      exact ⟨e2, f2⟩
    | 3, hq =>
      cases hq
      rw [hct 3 (by decide)]
      exact ⟨e3, f3⟩
    | 4, hq =>
      cases hq
      rw [hct 4 (by decide)]
      exact ⟨e4, f4⟩
    | 5, hq =>
      cases hq
      rw [hct 5 (by decide)]
      exact ⟨e5, f5⟩
    | 6, hq =>
      cases hq
      rw [hct 6 (by decide)]
      exact ⟨e6, f6⟩
    | 7, hq =>
      cases hq
      rw [hct 7 (by decide)]
      exact ⟨e7, f7⟩
    | k + 8, hq => exact absurd hq (by simp [tyl])
