/-! the mathematics of PolyphaseSort without any printed predicate. -/
/-- a strict total order on the origins -/
def ps_T (L : Nat → Nat → Prop) : Prop :=
  (∀ x, ¬ L x x) ∧ (∀ x y z, L x y → L y z → L x z) ∧ (∀ x y, x ≠ y → L x y ∨ L y x)
/-- h names the least of P, or is -1 where there is none -/
def ps_mi (L : Nat → Nat → Prop) (P : Nat → Prop) (h : Int32) : Prop :=
  (h = -1 ∧ ∀ y, ¬ P y) ∨ (∃ x, h = nI x ∧ P x ∧ ∀ y, P y → y = x ∨ L x y)
theorem ps_as {L : Nat → Nat → Prop} (hL : ps_T L) {x y : Nat} (a : L x y) (b : L y x) : False :=
  hL.1 x (hL.2.1 x y x a b)
theorem ps_mi_u {L : Nat → Nat → Prop} {P : Nat → Prop} {h h' : Int32} (hL : ps_T L) (a : ps_mi L P h) (b : ps_mi L P h') : h = h' := by
  rcases a with ⟨e, n⟩ | ⟨x, e, p, m⟩
  · rcases b with ⟨e', n'⟩ | ⟨x', e', p', m'⟩
    · rw [e, e']
    · exact absurd p' (n x')
  · rcases b with ⟨e', n'⟩ | ⟨x', e', p', m'⟩
    · exact absurd p (n' x)
    · rcases m x' p' with q | q
      · rw [e, e', q]
      · rcases m' x p with q' | q'
        · rw [e, e', q']
        · exact (ps_as hL q q').elim
theorem ps_mi_c {L : Nat → Nat → Prop} {P Q : Nat → Prop} {h : Int32} (e : ∀ y, P y ↔ Q y) (a : ps_mi L P h) : ps_mi L Q h := by
  rcases a with ⟨e0, n⟩ | ⟨x, ex, p, m⟩
  · exact Or.inl ⟨e0, fun y hy => n y ((e y).2 hy)⟩
  · exact Or.inr ⟨x, ex, (e x).1 p, fun y hy => m y ((e y).2 hy)⟩
/-- the same elements, and an order that agrees on them -/
theorem ps_mi_l {L L' : Nat → Nat → Prop} {P Q : Nat → Prop} {h : Int32} (e : ∀ y, P y ↔ Q y) (eL : ∀ x y, P x → P y → L x y → L' x y) (a : ps_mi L P h) : ps_mi L' Q h := by
  rcases a with ⟨e0, n⟩ | ⟨x, ex, p, m⟩
  · exact Or.inl ⟨e0, fun y hy => n y ((e y).2 hy)⟩
  · refine Or.inr ⟨x, ex, (e x).1 p, fun y hy => ?_⟩
    rcases m y ((e y).2 hy) with q | q
    · exact Or.inl q
    · exact Or.inr (eL x y p ((e y).2 hy) q)
theorem ps_mi_0 {L : Nat → Nat → Prop} {P : Nat → Prop} (e : ∀ y, ¬ P y) : ps_mi L P (-1) := Or.inl ⟨rfl, e⟩
theorem ps_mi_1 {L : Nat → Nat → Prop} {P : Nat → Prop} (x : Nat) (p : P x) (m : ∀ y, P y → y = x ∨ L x y) : ps_mi L P (nI x) := Or.inr ⟨x, rfl, p, m⟩
/-- an element behind one that is there leaves the least as it is -/
theorem ps_mi_add {L : Nat → Nat → Prop} {P Q : Nat → Prop} {h : Int32} (hL : ps_T L) (a : ps_mi L P h) {l f : Nat} (hl : P l) (hf : L l f) (e : ∀ y, Q y ↔ (P y ∨ y = f)) : ps_mi L Q h := by
  rcases a with ⟨_, n⟩ | ⟨x, ex, p, m⟩
  · exact absurd hl (n l)
  · refine Or.inr ⟨x, ex, (e x).2 (Or.inl p), fun y hy => ?_⟩
    rcases (e y).1 hy with q | q
    · exact m y q
    · right
      rw [q]
      rcases m l hl with r | r
      · rw [← r]; exact hf
      · exact hL.2.1 _ _ _ r hf
theorem ps_ne {x : Nat} (hx : x < 2 ^ 31) : ¬ nI x = -1 := by
  intro h
  have e := congrArg Int32.toInt h
  rw [nI_toInt hx] at e
  have e2 : (-1 : Int32).toInt = -1 := by decide
  rw [e2] at e
  omega
theorem ps_inj {x y : Nat} (hx : x < 2 ^ 31) (hy : y < 2 ^ 31) (h : nI x = nI y) : x = y := (nI_eq hx hy).1 h
/-- by keys, equal keys by origin -/
def ps_L (K : Nat → Int32) (x y : Nat) : Prop := (K x).toInt < (K y).toInt ∨ ((K x).toInt = (K y).toInt ∧ x < y)
theorem ps_L_T (K : Nat → Int32) : ps_T (ps_L K) := by
  refine ⟨fun x h => ?_, fun x y z h h' => ?_, fun x y h => ?_⟩
  · unfold ps_L at h; omega
  · unfold ps_L at *; omega
  · unfold ps_L; omega
/-- by run numbers first -/
def ps_R (rn : Nat → Nat) (L : Nat → Nat → Prop) (x y : Nat) : Prop := rn x < rn y ∨ (rn x = rn y ∧ L x y)
theorem ps_R_T {rn : Nat → Nat} {L : Nat → Nat → Prop} (hL : ps_T L) : ps_T (ps_R rn L) := by
  refine ⟨fun x h => ?_, fun x y z h h' => ?_, fun x y h => ?_⟩
  · rcases h with h | h
    · omega
    · exact hL.1 x h.2
  · rcases h with h | h
    · rcases h' with h' | h'
      · exact Or.inl (by omega)
      · exact Or.inl (by omega)
    · rcases h' with h' | h'
      · exact Or.inl (by omega)
      · exact Or.inr ⟨by omega, hL.2.1 x y z h.2 h'.2⟩
  · by_cases e : rn x = rn y
    · rcases hL.2.2 x y h with q | q
      · exact Or.inl (Or.inr ⟨e, q⟩)
      · exact Or.inr (Or.inr ⟨e.symm, q⟩)
    · by_cases l : rn x < rn y
      · exact Or.inl (Or.inl l)
      · exact Or.inr (Or.inl (by omega))
theorem ps_R_le {rn : Nat → Nat} {L : Nat → Nat → Prop} {x y : Nat} (h : ps_R rn L x y) : rn x ≤ rn y := by
  rcases h with h | h
  · omega
  · omega
theorem ps_R_L {rn : Nat → Nat} {L : Nat → Nat → Prop} {x y : Nat} (h : ps_R rn L x y) (e : rn x = rn y) : L x y := by
  rcases h with h | h
  · omega
  · exact h.2
/-- how many of the first n -/
noncomputable def ps_nP (P : Nat → Prop) : Nat → Nat
  | 0 => 0
  | n + 1 => ps_nP P n + @ite Nat (P n) (Classical.propDecidable _) 1 0
theorem ps_nP_le (P : Nat → Prop) : ∀ n, ps_nP P n ≤ n := by
  intro n
  induction n with
  | zero => exact Nat.le_refl 0
  | succ n ih =>
    unfold ps_nP
    split <;> omega
theorem ps_nP_mono {P Q : Nat → Prop} (h : ∀ x, Q x → P x) : ∀ n, ps_nP Q n ≤ ps_nP P n := by
  intro n
  induction n with
  | zero => exact Nat.le_refl 0
  | succ n ih =>
    unfold ps_nP
    by_cases q : Q n
    · rw [if_pos q, if_pos (h n q)]; omega
    · rw [if_neg q]; omega
theorem ps_nP_lt {P Q : Nat → Prop} {r : Nat} (h : ∀ x, Q x → P x) (p : P r) (q : ¬ Q r) : ∀ n, r < n → ps_nP Q n < ps_nP P n := by
  intro n
  induction n with
  | zero => intro hr; omega
  | succ n ih =>
    intro hr
    unfold ps_nP
    by_cases e : r = n
    · subst e
      have m := ps_nP_mono h r
      rw [if_pos p, if_neg q]; omega
    · have i := ih (by omega)
      by_cases qn : Q n
      · rw [if_pos qn, if_pos (h n qn)]; omega
      · rw [if_neg qn]; omega
theorem ps_nP_0 {P : Nat → Prop} : ∀ n, ps_nP P n = 0 → ∀ x, x < n → ¬ P x := by
  intro n
  induction n with
  | zero => intro _ x hx; omega
  | succ n ih =>
    intro h x hx
    unfold ps_nP at h
    by_cases p : P n
    · rw [if_pos p] at h; omega
    · rw [if_neg p] at h
      by_cases e : x = n
      · subst e; exact p
      · exact ih (by omega) x (by omega)
