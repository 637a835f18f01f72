/-! a new log, of the reference -/
def nmA (σ : St) (l : Nat) (ce so un wi br ft td : Int) : St := st (st (st (st (st (st (st (st (st σ 12 0 17 ((l : Int) + 1)) 95 0 l ce) 96 0 l so) 97 0 l un) 98 0 l wi) 99 0 l td) 100 0 l br) 101 0 l ft) 103 0 l td
def clr5 (f : Nat → Int) (l : Nat) : Nat → Nat → Int
  | 0 => f
  | m + 1 => up (clr5 f l m) (5 * l + m) (-1)
def newM (σ : St) (l : Nat) (ce so un wi br ft td s0 s1 kd : Int) : St := st (st (st (st (st (st (st (bcm (sta (nmA σ l ce so un wi br ft td) 104 0 (clr5 (σ 104 0) l 5)) l 0 0 td kd) 106 0 (5 * l) ce) 106 0 (5 * l + 1) so) 106 0 (5 * l + 2) un) 106 0 (5 * l + 3) wi) 106 0 (5 * l + 4) td) 107 0 l s0) 108 0 l s1
theorem fl_loop {S : St} {f : Nat → Int} {l : Nat} {x1 x2 x3 x4 : Int} {K : St → Int → Int → Int → Int → Int → Prop} {Q : St → Prop} (hl : l < 300) (q : K (sta S 104 0 (clr5 f l 5)) x1 x2 x3 x4 l) :
    ∀ (k m n : Nat), m + k = 5 → k < n → wp_X12_falls_117 K Q n (sta S 104 0 (clr5 f l m)) x1 x2 x3 x4 l m := by
  intro k
  induction k with
  | zero =>
    intro m n hk hn
    obtain ⟨n, rfl⟩ : ∃ n', n = n' + 1 := ⟨n - 1, by omega⟩
    have e : m = 5 := by omega
    subst e
    unfold wp_X12_falls_117
    exact ⟨⟨by decide, by decide⟩, fun _ => q, fun z => absurd (by decide) z⟩
  | succ k ih =>
    intro m n hk hn
    obtain ⟨n, rfl⟩ : ∃ n', n = n' + 1 := ⟨n - 1, by omega⟩
    have nx := ih (m + 1) n (by omega) (by omega)
    unfold wp_X12_falls_117
    rw [show Int.toNat (5 * (l : Int) + m) = 5 * l + m by omega, show ((m : Int) + 1) = ((m + 1 : Nat) : Int) by omega]
    refine ⟨⟨by omega, by omega⟩, fun z => absurd z (by omega), fun _ => ⟨by omega, by omega, fun s1 e1 => ?_⟩⟩
    rw [st_stae] at e1
    rw [e1]
    exact nx
theorem sm_falls {σ : St} {l : Nat} {ce so un wi br td : Int} {Q : St → Prop} (hlc : σ 12 0 17 = l) (hl : l < 300) (hce : 0 ≤ ce ∧ ce ≤ 63) (hso : 0 ≤ so ∧ so ≤ 3) (hun : 2 ≤ un ∧ un ≤ 6) (hw : 1 ≤ wi ∧ wi ≤ 32) (ht : σ 12 0 1 = td) (htd : 0 ≤ td ∧ td ≤ 3999) (hm : 0 ≤ σ 12 0 7 ∧ σ 12 0 7 ≤ 63)
    (q : Q (newM σ l ce so un wi br (ftv ((l : Int) * 7 + ce) wi) td (S0 (reg5 ce so un wi td) % 65537) (S1 (reg5 ce so un wi td) % 65537) (td + Int.tdiv (apv ce (σ 12 0 7)) 4))) : wp_X12_falls σ ce so un wi br Q := by
  have em : Int.tmod (7 * (l : Int) + ce) (wi + 3) = Int.tmod ((l : Int) * 7 + ce) (wi + 3) := by rw [Int.mul_comm]
  have em2 : Int.tmod ((l : Int) * 7 + ce) (wi + 3) = ((l : Int) * 7 + ce) % (wi + 3) := Int.tmod_eq_emod_of_nonneg (by omega)
  have l1 := Int.emod_lt_of_pos ((l : Int) * 7 + ce) (show 0 < wi + 3 by omega)
  have l0 := Int.emod_nonneg ((l : Int) * 7 + ce) (show wi + 3 ≠ 0 by omega)
  have go : ∀ (S : St) (y : Int), S = st (st (st (st (st (st (st σ 12 0 17 ((l : Int) + 1)) 95 0 l ce) 96 0 l so) 97 0 l un) 98 0 l wi) 99 0 l td) 100 0 l br → y = ftv ((l : Int) * 7 + ce) wi → wp_X12_falls_102 Q S ce so un wi l y l := by
    intro S y eS ey
    unfold wp_X12_falls_102
    rw [Int.toNat_natCast]
    refine ⟨by omega, by omega, fun s1 e1 => ⟨by omega, by omega, fun s2 e2 => ⟨6, ?_⟩⟩⟩
    have r1 : s1 12 0 1 = td := by
      rw [e1, rs_ne (by decide), eS]
      simp (decide := true) only [rs_ne, rs_eq, up_ne, not_false_eq_true]
      exact ht
    rw [r1] at e2
    have es2 : s2 = nmA σ l ce so un wi br (ftv ((l : Int) * 7 + ce) wi) td := by
      rw [e2, e1, eS, ey]
      rfl
    have k12 : ∀ i, ¬ i = 17 → s2 12 0 i = σ 12 0 i := fun i hi => by
      rw [es2]
      unfold nmA
      simp (decide := true) only [rs_ne, rs_eq, not_false_eq_true]
      exact up_ne hi
    have k95 : s2 95 0 l = ce := by
      rw [es2]
      unfold nmA
      simp (decide := true) only [rs_ne, rs_eq, up_eq, not_false_eq_true]
    have k104 : s2 104 0 = σ 104 0 := by
      rw [es2]
      unfold nmA
      simp (decide := true) only [rs_ne, not_false_eq_true]
    have E := fl_loop (S := s2) (f := s2 104 0) (l := l) (x1 := ce) (x2 := so) (x3 := un) (x4 := wi) (K := wp_X12_falls_142 Q) (Q := Q) hl ?_ 5 0 6 (by omega) (by omega)
    · have e0 : sta s2 104 0 (clr5 (s2 104 0) l 0) = s2 := sta_self
      rw [e0] at E
      exact E
    rw [k104]
    obtain ⟨T, eT⟩ : ∃ T : St, T = sta s2 104 0 (clr5 (σ 104 0) l 5) := ⟨_, rfl⟩
    rw [← eT]
    have T12 : T 12 = s2 12 := by rw [eT, ra_ne (by decide)]
    have T95 : T 95 = s2 95 := by rw [eT, ra_ne (by decide)]
    unfold wp_X12_falls_142
    refine sm_becomes (k := 0) (td := td) (cell := ce) hl rfl (by decide) (by rw [T95]; exact k95) hce (by rw [T12, k12 7 (by decide)]; exact hm) (by rw [T12, k12 1 (by decide)]; exact ht) ?_
    rw [T12, k12 7 (by decide)]
    rw [show Int.toNat (5 * (l : Int)) = 5 * l by omega, show Int.toNat (5 * (l : Int) + 1) = 5 * l + 1 by omega, show Int.toNat (5 * (l : Int) + 2) = 5 * l + 2 by omega, show Int.toNat (5 * (l : Int) + 3) = 5 * l + 3 by omega, show Int.toNat (5 * (l : Int) + 4) = 5 * l + 4 by omega]
    refine ⟨by omega, by omega, fun a4 b4 => ⟨by omega, by omega, fun a7 b7 => ⟨by omega, by omega, fun a10 b10 => ⟨by omega, by omega, fun a13 b13 => ⟨by omega, by omega, fun a16 b16 => ?_⟩⟩⟩⟩⟩
    have u12 : a13 12 0 1 = td := by
      rw [b13, rs_ne (by decide), b10, rs_ne (by decide), b7, rs_ne (by decide), b4, rs_ne (by decide)]
      unfold bcm
      rw [rs_ne (by decide), rs_ne (by decide), rs_ne (by decide), T12, k12 1 (by decide)]
      exact ht
    rw [u12] at b16
    have g106 : ∀ k, k < 5 → a16 106 0 (5 * l + k) = reg5 ce so un wi td k := by
      intro k hk
      rw [b16, rs_eq, b13, rs_eq, b10, rs_eq, b7, rs_eq, b4, rs_eq]
      rcases (show k = 0 ∨ k = 1 ∨ k = 2 ∨ k = 3 ∨ k = 4 by omega) with rfl | rfl | rfl | rfl | rfl
      · rw [up_ne (by omega), up_ne (by omega), up_ne (by omega), up_ne (by omega)]
        exact up_eq
      · rw [up_ne (by omega), up_ne (by omega), up_ne (by omega), up_eq]
        rfl
      · rw [up_ne (by omega), up_ne (by omega), up_eq]
        rfl
      · rw [up_ne (by omega), up_eq]
        rfl
      · rw [up_eq]
        rfl
    have gb : ∀ k, k < 5 → 0 ≤ a16 106 0 (5 * l + k) ∧ a16 106 0 (5 * l + k) ≤ 65536 := by
      intro k hk
      rw [g106 k hk]
      rcases (show k = 0 ∨ k = 1 ∨ k = 2 ∨ k = 3 ∨ k = 4 by omega) with rfl | rfl | rfl | rfl | rfl
      · show 0 ≤ ce ∧ ce ≤ 65536; omega
      · show 0 ≤ so ∧ so ≤ 65536; omega
      · show 0 ≤ un ∧ un ≤ 65536; omega
      · show 0 ≤ wi ∧ wi ≤ 65536; omega
      · show 0 ≤ td ∧ td ≤ 65536; omega
    have gS0 : S0 (fun k => a16 106 0 (5 * l + k)) = S0 (reg5 ce so un wi td) := by
      unfold S0
      dsimp only
      rw [g106 0 (by decide), g106 1 (by decide), g106 2 (by decide), g106 3 (by decide), g106 4 (by decide)]
    have gS1 : S1 (fun k => a16 106 0 (5 * l + k)) = S1 (reg5 ce so un wi td) := by
      unfold S1
      dsimp only
      rw [g106 0 (by decide), g106 1 (by decide), g106 2 (by decide), g106 3 (by decide), g106 4 (by decide)]
    refine sm_sums hl (Or.inl rfl) gb ?_
    rw [if_pos rfl, gS0, Int.toNat_natCast]
    refine ⟨by omega, by omega, fun a21 b21 => ?_⟩
    have h106 : a21 106 = a16 106 := by rw [b21, rs_ne (by decide)]
    refine sm_sums hl (Or.inr rfl) (by rw [h106]; exact gb) ?_
    rw [if_neg (by decide), h106, gS1]
    refine ⟨by omega, by omega, fun a26 b26 => ?_⟩
    rw [b26, b21, b16, b13, b10, b7, b4, eT, es2]
    exact q
  intro v ev s39 e39
  rw [hlc] at ev e39
  subst ev
  rw [Int.toNat_natCast]
  refine ⟨by omega, by omega, fun s42 e42 => ⟨by omega, by omega, fun s45 e45 => ⟨by omega, by omega, fun s48 e48 => ⟨by omega, by omega, fun s51 e51 => ⟨by omega, by omega, fun s54 e54 => ⟨by omega, by omega, fun s57 e57 => ?_⟩⟩⟩⟩⟩⟩
  have r51 : s51 12 0 1 = td := by
    rw [e51, rs_ne (by decide), e48, rs_ne (by decide), e45, rs_ne (by decide), e42, rs_ne (by decide), e39, rs_eq, up_ne (by decide)]
    exact ht
  rw [r51] at e54
  have e57b : s57 = st (st (st (st (st (st (st σ 12 0 17 ((l : Int) + 1)) 95 0 l ce) 96 0 l so) 97 0 l un) 98 0 l wi) 99 0 l td) 100 0 l br := by
    rw [e57, e54, e51, e48, e45, e42, e39]
  rw [em, em2]
  refine ⟨⟨by omega, by omega⟩, ⟨by omega, by omega⟩, by omega, by omega, fun v ev => ⟨⟨by omega, by omega⟩, ⟨by omega, by omega⟩, fun y => go s57 _ e57b ?_, fun y => go s57 _ e57b ?_⟩⟩
  · unfold ftv
    rw [em2, if_neg (by omega), ev]
  · unfold ftv
    rw [em2, if_pos (by omega)]
