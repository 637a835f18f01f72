/-! how a text is read: one token after the other -/
def PS : Type := Int × Int × Nat × Nat × Nat × Int × Int × (Nat → Int) × (Nat → Int) × (Nat → Int) × (Nat → Int) × (Nat → Int) × (Nat → Int) × (Nat → Int)
def PS.w (s : PS) : Int := s.1
def PS.kd (s : PS) : Int := s.2.1
def PS.fr (s : PS) : Nat := s.2.2.1
def PS.to (s : PS) : Nat := s.2.2.2.1
def PS.len (s : PS) : Nat := s.2.2.2.2.1
def PS.fk (s : PS) : Int := s.2.2.2.2.2.1
def PS.fp (s : PS) : Int := s.2.2.2.2.2.2.1
def PS.vb (s : PS) : Nat → Int := s.2.2.2.2.2.2.2.1
def PS.ob (s : PS) : Nat → Int := s.2.2.2.2.2.2.2.2.1
def PS.tm (s : PS) : Nat → Int := s.2.2.2.2.2.2.2.2.2.1
def PS.ng (s : PS) : Nat → Int := s.2.2.2.2.2.2.2.2.2.2.1
def PS.wd (s : PS) : Nat → Int := s.2.2.2.2.2.2.2.2.2.2.2.1
def PS.rl (s : PS) : Nat → Int := s.2.2.2.2.2.2.2.2.2.2.2.2.1
def PS.vl (s : PS) : Nat → Int := s.2.2.2.2.2.2.2.2.2.2.2.2.2
def mkP (w : Int) (kd : Int) (fr : Nat) (to : Nat) (len : Nat) (fk : Int) (fp : Int) (vb : Nat → Int) (ob : Nat → Int) (tm : Nat → Int) (ng : Nat → Int) (wd : Nat → Int) (rl : Nat → Int) (vl : Nat → Int) : PS := (w, kd, fr, to, len, fk, fp, vb, ob, tm, ng, wd, rl, vl)
noncomputable def fcI (P : Nat → Prop) : Nat → Nat → Int
  | 0, _ => -1
  | f + 1, k => cif (P (14 + k)) (k : Int) (fcI P f (k + 1))
noncomputable def vbI (P : Nat → Prop) : Int := cif (P 7) 0 (cif (P 8) 1 (cif (P 9) 2 (cif (P 10) 3 (-1))))
noncomputable def dbI (P : Nat → Prop) : Int := cif (P 11) 0 (cif (P 12) 1 (cif (P 13) 2 (-1)))
noncomputable def nmI (b : Nat → Int) (s : PS) : Int := cif (s.kd = 2) (nmv b s.fr (s.to - s.fr)) (-1)
noncomputable def sgI (b : Nat → Int) (s : PS) : Int := cif (s.kd = 3) (sgv (b s.fr)) (-1)
def bad (k : Int) (s : PS) : PS := (mkP (0) s.kd s.fr s.to s.len (k) (s.fr) s.vb s.ob s.tm s.ng s.wd s.rl s.vl)
def tix (s : PS) : Nat := 5 * (s.len - 1) + (s.tm (s.len - 1)).toNat
noncomputable def tkV (P : Nat → Prop) (s : PS) : PS := if vbI P = -1 then bad 1 s else if 12 ≤ s.len then bad 2 s else (mkP (if vbI P = 0 then 2 else 3) s.kd s.fr s.to (s.len + 1) s.fk s.fp (up s.vb s.len (vbI P)) s.ob (up s.tm s.len 0) s.ng s.wd s.rl s.vl)
def tkO (o : Int) (s : PS) : PS := if o = -1 then bad 1 s else (mkP (4) s.kd s.fr s.to s.len s.fk s.fp s.vb (up s.ob (s.len - 1) o) s.tm s.ng s.wd s.rl s.vl)
def tkWd (f : Int) (s : PS) : PS := if f = -1 then bad 1 s else (mkP (7) s.kd s.fr s.to s.len s.fk s.fp s.vb s.ob s.tm s.ng (up s.wd (tix s - 1) f) s.rl s.vl)
noncomputable def tkTm (P : Nat → Prop) (s : PS) : PS :=
  cif (¬ P 4 ∧ fcI P 13 0 = -1) (bad 1 s) (if 5 ≤ s.tm (s.len - 1) then bad 2 s else cif (P 4) (mkP (6) s.kd s.fr s.to s.len s.fk s.fp s.vb s.ob (up s.tm (s.len - 1) (s.tm (s.len - 1) + 1)) (up s.ng (tix s) 1) s.wd s.rl s.vl) (tkWd (fcI P 13 0) (mkP s.w s.kd s.fr s.to s.len s.fk s.fp s.vb s.ob (up s.tm (s.len - 1) (s.tm (s.len - 1) + 1)) (up s.ng (tix s) 0) s.wd s.rl s.vl)))
def tkR (g : Int) (s : PS) : PS := if 0 ≤ g ∧ g ≤ 2 then (mkP (8) s.kd s.fr s.to s.len s.fk s.fp s.vb s.ob s.tm s.ng s.wd (up s.rl (tix s - 1) g) s.vl) else bad 1 s
def tkVl (v : Int) (s : PS) : PS := if v = -1 then bad 1 s else (mkP (9) s.kd s.fr s.to s.len s.fk s.fp s.vb s.ob s.tm s.ng s.wd s.rl (up s.vl (tix s - 1) v))
noncomputable def tkJ (P : Nat → Prop) (g : Int) (s : PS) : PS := cif (P 6) (mkP (5) s.kd s.fr s.to s.len s.fk s.fp s.vb s.ob s.tm s.ng s.wd s.rl s.vl) (if g = 3 then (mkP (1) s.kd s.fr s.to s.len s.fk s.fp s.vb s.ob s.tm s.ng s.wd s.rl s.vl) else bad 1 s)
noncomputable def tkIf (P : Nat → Prop) (s : PS) : PS := cif (P 3) (mkP (5) s.kd s.fr s.to s.len s.fk s.fp s.vb s.ob s.tm s.ng s.wd s.rl s.vl) (bad 1 s)
noncomputable def tke (b : Nat → Int) (s : PS) : PS :=
  if s.w = 1 then tkV (isW b s.kd s.fr s.to) s else if s.w = 2 then tkO (dbI (isW b s.kd s.fr s.to)) s else if s.w = 3 then tkO (nmI b s) s else if s.w = 4 then tkIf (isW b s.kd s.fr s.to) s else if s.w = 5 then tkTm (isW b s.kd s.fr s.to) s else if s.w = 6 then tkWd (fcI (isW b s.kd s.fr s.to) 13 0) s else if s.w = 7 then tkR (sgI b s) s else if s.w = 8 then tkVl (nmI b s) s else tkJ (isW b s.kd s.fr s.to) (sgI b s) s
noncomputable def adv (b : Nat → Int) (z : Nat) (s : PS) : PS := (mkP s.w (tkK b z s.to) (tkF b z s.to) (tkT b z s.to) s.len s.fk s.fp s.vb s.ob s.tm s.ng s.wd s.rl s.vl)
noncomputable def stp (b : Nat → Int) (z : Nat) (s : PS) : PS := if (tke b s).w = 0 then tke b s else adv b z (tke b s)
/-- what is kept of a state -/
def WF (b : Nat → Int) (z : Nat) (s : PS) : Prop := (0 ≤ s.w ∧ s.w ≤ 9) ∧ (s.fr ≤ s.to ∧ s.to ≤ z) ∧ s.len ≤ 12 ∧ (2 ≤ s.w → 1 ≤ s.len ∧ 0 ≤ s.tm (s.len - 1) ∧ s.tm (s.len - 1) ≤ 5) ∧ (s.w = 6 ∨ s.w = 7 ∨ s.w = 8 → 1 ≤ s.tm (s.len - 1)) ∧ (0 ≤ s.kd ∧ s.kd ≤ 4) ∧ (s.kd = 0 → s.fr = z) ∧ (¬ s.kd = 0 → s.fr < z ∧ s.fr < s.to) ∧ (s.kd = 2 → 0 ≤ nmv b s.fr (s.to - s.fr) ∧ nmv b s.fr (s.to - s.fr) ≤ 9999)
/-- the class's rows of the text that is read -/
def CR (σ S : St) (tx : Nat) (s : PS) : Prop :=
  (S 9 0 2 = s.kd ∧ S 9 0 3 = s.fr ∧ S 9 0 4 = s.to ∧ S 67 0 tx = s.len ∧ S 8 0 11 = s.fk ∧ S 8 0 12 = s.fp) ∧
  (∀ k, k < 12 → S 68 0 (12 * tx + k) = s.vb k ∧ S 69 0 (12 * tx + k) = s.ob k ∧ S 70 0 (12 * tx + k) = s.tm k) ∧
  (∀ k, k < 60 → S 71 0 (60 * tx + k) = s.ng k ∧ S 72 0 (60 * tx + k) = s.wd k ∧ S 73 0 (60 * tx + k) = s.rl k ∧ S 74 0 (60 * tx + k) = s.vl k) ∧
  (∀ k, ¬ k = 8 → ¬ k = 9 → (k < 67 ∨ 74 < k) → S k = σ k) ∧ (∀ i, ¬ i = 11 → ¬ i = 12 → S 8 0 i = σ 8 0 i) ∧ (∀ i, ¬ i = 2 → ¬ i = 3 → ¬ i = 4 → S 9 0 i = σ 9 0 i) ∧ (∀ i, ¬ i = tx → S 67 0 i = σ 67 0 i) ∧
  (∀ i, i < 12 * tx → S 68 0 i = σ 68 0 i ∧ S 69 0 i = σ 69 0 i ∧ S 70 0 i = σ 70 0 i) ∧ (∀ i, i < 60 * tx → S 71 0 i = σ 71 0 i ∧ S 72 0 i = σ 72 0 i ∧ S 73 0 i = σ 73 0 i ∧ S 74 0 i = σ 74 0 i)
theorem prt_iff {b : Nat → Int} {fr to j x y j' x' y' : Nat} (h : y - x = y' - x') (e : ∀ i, i < y - x → sbyt j (x + i) = sbyt j' (x' + i)) : prt b fr to j x y ↔ prt b fr to j' x' y' := by
  unfold prt
  constructor
  · rintro ⟨a, c⟩
    exact ⟨by omega, fun i hi => by rw [← e i (by omega)]; exact c i (by omega)⟩
  · rintro ⟨a, c⟩
    exact ⟨by omega, fun i hi => by rw [e i hi]; exact c i (by omega)⟩
theorem wIn_to {P : Nat → Nat → Prop} {L : Nat → Int} {len w x : Nat} : ∀ (k a f : Nat), (∀ i, i < k → ¬ (a + i = len ∨ L (a + i) = 32)) → wIn P L len (f + k) w x a = wIn P L len f w x (a + k) := by
  intro k
  induction k with
  | zero => intro a f _; rfl
  | succ k ih =>
    intro a f h
    have h0 := h 0 (by omega)
    rw [Nat.add_zero] at h0
    show (if a = len ∨ L a = 32 then cif (P x a) (w : Int) (wIn P L len (f + k) (w + 1) (a + 1) (a + 1)) else wIn P L len (f + k) w x (a + 1)) = _
    rw [if_neg h0, ih (a + 1) f (fun i hi => by
      have := h (i + 1) (by omega)
      rw [show a + (i + 1) = a + 1 + i by omega] at this
      exact this), show a + 1 + k = a + (k + 1) by omega]
theorem wIn_cut {P : Nat → Nat → Prop} {L : Nat → Int} {len w x a f : Nat} (h : a = len ∨ L a = 32) : wIn P L len (f + 1) w x a = cif (P x a) (w : Int) (wIn P L len f (w + 1) (a + 1) (a + 1)) := by
  show (if a = len ∨ L a = 32 then _ else _) = _
  rw [if_pos h]
theorem cif_iff {α : Type} {c d : Prop} {a b : α} (h : c ↔ d) : cif c a b = cif d a b := by
  rw [show c = d from propext h]
/-- a list's piece is its word -/
theorem seg {b : Nat → Int} {kd : Int} {fr to j x y j' : Nat} (hk : kd = 1) (h : y - x = (slen j').toNat) (e : ∀ i, i < y - x → sbyt j (x + i) = sbyt j' (0 + i)) : prt b fr to j x y ↔ isW b kd fr to j' := by
  rw [prt_iff (j' := j') (x' := 0) (y' := (slen j').toNat) (by omega) e]
  exact ⟨fun z => ⟨hk, z⟩, fun z => z.2⟩
theorem isW_k {b : Nat → Int} {kd : Int} {fr to j : Nat} (h : ¬ kd = 1) : ¬ isW b kd fr to j := fun z => h z.1
theorem vbs_eq {b : Nat → Int} {kd : Int} {fr to : Nat} : cif (kd = 1) (wIn (prt b fr to 1) (sbyt 1) 19 20 0 0 0) (-1) = vbI (isW b kd fr to) := by
  unfold vbI
  by_cases hk : kd = 1
  · rw [cif_p hk, wIn_to 3 0 17 (by decide +kernel), wIn_cut (by decide +kernel), wIn_to 3 4 13 (by decide +kernel), wIn_cut (by decide +kernel), wIn_to 6 8 6 (by decide +kernel), wIn_cut (by decide +kernel), wIn_to 4 15 1 (by decide +kernel), wIn_cut (by decide +kernel)]
    rw [cif_iff (seg (j' := 7) hk (by decide +kernel) (by decide +kernel)), cif_iff (seg (j' := 8) hk (by decide +kernel) (by decide +kernel)), cif_iff (seg (j' := 9) hk (by decide +kernel) (by decide +kernel)), cif_iff (seg (j' := 10) hk (by decide +kernel) (by decide +kernel))]
    rfl
  · rw [cif_n hk, cif_n (isW_k hk), cif_n (isW_k hk), cif_n (isW_k hk), cif_n (isW_k hk)]
theorem dbs_eq {b : Nat → Int} {kd : Int} {fr to : Nat} : cif (kd = 1) (wIn (prt b fr to 2) (sbyt 2) 14 15 0 0 0) (-1) = dbI (isW b kd fr to) := by
  unfold dbI
  by_cases hk : kd = 1
  · rw [cif_p hk, wIn_to 3 0 12 (by decide +kernel), wIn_cut (by decide +kernel), wIn_to 5 4 6 (by decide +kernel), wIn_cut (by decide +kernel), wIn_to 4 10 1 (by decide +kernel), wIn_cut (by decide +kernel)]
    rw [cif_iff (seg (j' := 11) hk (by decide +kernel) (by decide +kernel)), cif_iff (seg (j' := 12) hk (by decide +kernel) (by decide +kernel)), cif_iff (seg (j' := 13) hk (by decide +kernel) (by decide +kernel))]
    rfl
  · rw [cif_n hk, cif_n (isW_k hk), cif_n (isW_k hk), cif_n (isW_k hk)]
theorem fcI_no {P : Nat → Prop} (h : ∀ j, ¬ P j) : ∀ f k, fcI P f k = -1 := by
  intro f
  induction f with
  | zero => intro _; rfl
  | succ f ih =>
    intro k
    show cif (P (14 + k)) (k : Int) (fcI P f (k + 1)) = -1
    rw [cif_n (h _), ih]
theorem wds_eq {b : Nat → Int} {kd : Int} {fr to : Nat} : cif (kd = 1) (wIn (prt b fr to 5) (sbyt 5) 67 68 0 0 0) (-1) = fcI (isW b kd fr to) 13 0 := by
  by_cases hk : kd = 1
  · rw [cif_p hk, wIn_to 4 0 64 (by decide +kernel), wIn_cut (by decide +kernel), wIn_to 6 5 57 (by decide +kernel), wIn_cut (by decide +kernel), wIn_to 4 12 52 (by decide +kernel), wIn_cut (by decide +kernel), wIn_to 5 17 46 (by decide +kernel), wIn_cut (by decide +kernel), wIn_to 6 23 39 (by decide +kernel), wIn_cut (by decide +kernel), wIn_to 3 30 35 (by decide +kernel), wIn_cut (by decide +kernel), wIn_to 4 34 30 (by decide +kernel), wIn_cut (by decide +kernel), wIn_to 5 39 24 (by decide +kernel), wIn_cut (by decide +kernel), wIn_to 3 45 20 (by decide +kernel), wIn_cut (by decide +kernel), wIn_to 3 49 16 (by decide +kernel), wIn_cut (by decide +kernel), wIn_to 5 53 10 (by decide +kernel), wIn_cut (by decide +kernel), wIn_to 4 59 5 (by decide +kernel), wIn_cut (by decide +kernel), wIn_to 3 64 1 (by decide +kernel), wIn_cut (by decide +kernel)]
    rw [cif_iff (seg (j' := 14) hk (by decide +kernel) (by decide +kernel)), cif_iff (seg (j' := 15) hk (by decide +kernel) (by decide +kernel)), cif_iff (seg (j' := 16) hk (by decide +kernel) (by decide +kernel)), cif_iff (seg (j' := 17) hk (by decide +kernel) (by decide +kernel)), cif_iff (seg (j' := 18) hk (by decide +kernel) (by decide +kernel)), cif_iff (seg (j' := 19) hk (by decide +kernel) (by decide +kernel)), cif_iff (seg (j' := 20) hk (by decide +kernel) (by decide +kernel)), cif_iff (seg (j' := 21) hk (by decide +kernel) (by decide +kernel)), cif_iff (seg (j' := 22) hk (by decide +kernel) (by decide +kernel)), cif_iff (seg (j' := 23) hk (by decide +kernel) (by decide +kernel)), cif_iff (seg (j' := 24) hk (by decide +kernel) (by decide +kernel)), cif_iff (seg (j' := 25) hk (by decide +kernel) (by decide +kernel)), cif_iff (seg (j' := 26) hk (by decide +kernel) (by decide +kernel))]
    rfl
  · rw [cif_n hk, fcI_no (fun j => isW_k hk)]
theorem fcI_b {P : Nat → Prop} : ∀ f k : Nat, -1 ≤ fcI P f k ∧ fcI P f k < k + f := by
  intro f
  induction f with
  | zero => intro k; exact ⟨by show (-1 : Int) ≤ -1; omega, by show (-1 : Int) < _; omega⟩
  | succ f ih =>
    intro k
    have a := ih (k + 1)
    show -1 ≤ cif (P (14 + k)) (k : Int) (fcI P f (k + 1)) ∧ cif (P (14 + k)) (k : Int) (fcI P f (k + 1)) < (k : Int) + ((f + 1 : Nat) : Int)
    by_cases c : P (14 + k)
    · rw [cif_p c]; omega
    · rw [cif_n c]; omega
theorem vbI_b {P : Nat → Prop} : -1 ≤ vbI P ∧ vbI P ≤ 3 := by
  unfold vbI
  by_cases c1 : P 7
  · rw [cif_p c1]; decide
  · rw [cif_n c1]
    by_cases c2 : P 8
    · rw [cif_p c2]; decide
    · rw [cif_n c2]
      by_cases c3 : P 9
      · rw [cif_p c3]; decide
      · rw [cif_n c3]
        by_cases c4 : P 10
        · rw [cif_p c4]; decide
        · rw [cif_n c4]; decide
theorem dbI_b {P : Nat → Prop} : -1 ≤ dbI P ∧ dbI P ≤ 2 := by
  unfold dbI
  by_cases c1 : P 11
  · rw [cif_p c1]; decide
  · rw [cif_n c1]
    by_cases c2 : P 12
    · rw [cif_p c2]; decide
    · rw [cif_n c2]
      by_cases c3 : P 13
      · rw [cif_p c3]; decide
      · rw [cif_n c3]; decide
