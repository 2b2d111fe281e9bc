section
/-! the mathematics of PolyphaseSort without any printed predicate. -/
/-- a strict total order on the origins -/
def ps_T (L : Nat → Nat → Prop) : Prop :=
  (∀ x, ¬ L x x) ∧ (∀ x y z, L x y → L y z → L x z) ∧ (∀ x y, x ≠ y → L x y ∨ L y x)
/-- h names the least of P, or is -1 where there is none -/
def ps_mi (L : Nat → Nat → Prop) (P : Nat → Prop) (h : Int32) : Prop :=
  (h = -1 ∧ ∀ y, ¬ P y) ∨ (∃ x, h = nI x ∧ P x ∧ ∀ y, P y → y = x ∨ L x y)
theorem ps_as {L : Nat → Nat → Prop} (hL : ps_T L) {x y : Nat} (a : L x y) (b : L y x) : False :=
  hL.1 x (hL.2.1 x y x a b)
theorem ps_mi_u {L : Nat → Nat → Prop} {P : Nat → Prop} {h h' : Int32} (hL : ps_T L) (a : ps_mi L P h) (b : ps_mi L P h') : h = h' := by
  rcases a with ⟨e, n⟩ | ⟨x, e, p, m⟩
  · rcases b with ⟨e', n'⟩ | ⟨x', e', p', m'⟩
    · rw [e, e']
    · exact absurd p' (n x')
  · rcases b with ⟨e', n'⟩ | ⟨x', e', p', m'⟩
    · exact absurd p (n' x)
    · rcases m x' p' with q | q
      · rw [e, e', q]
      · rcases m' x p with q' | q'
        · rw [e, e', q']
        · exact (ps_as hL q q').elim
theorem ps_mi_c {L : Nat → Nat → Prop} {P Q : Nat → Prop} {h : Int32} (e : ∀ y, P y ↔ Q y) (a : ps_mi L P h) : ps_mi L Q h := by
  rcases a with ⟨e0, n⟩ | ⟨x, ex, p, m⟩
  · exact Or.inl ⟨e0, fun y hy => n y ((e y).2 hy)⟩
  · exact Or.inr ⟨x, ex, (e x).1 p, fun y hy => m y ((e y).2 hy)⟩
/-- the same elements, and an order that agrees on them -/
theorem ps_mi_l {L L' : Nat → Nat → Prop} {P Q : Nat → Prop} {h : Int32} (e : ∀ y, P y ↔ Q y) (eL : ∀ x y, P x → P y → L x y → L' x y) (a : ps_mi L P h) : ps_mi L' Q h := by
  rcases a with ⟨e0, n⟩ | ⟨x, ex, p, m⟩
  · exact Or.inl ⟨e0, fun y hy => n y ((e y).2 hy)⟩
  · refine Or.inr ⟨x, ex, (e x).1 p, fun y hy => ?_⟩
    rcases m y ((e y).2 hy) with q | q
    · exact Or.inl q
    · exact Or.inr (eL x y p ((e y).2 hy) q)
theorem ps_mi_0 {L : Nat → Nat → Prop} {P : Nat → Prop} (e : ∀ y, ¬ P y) : ps_mi L P (-1) := Or.inl ⟨rfl, e⟩
theorem ps_mi_1 {L : Nat → Nat → Prop} {P : Nat → Prop} (x : Nat) (p : P x) (m : ∀ y, P y → y = x ∨ L x y) : ps_mi L P (nI x) := Or.inr ⟨x, rfl, p, m⟩
/-- an element behind one that is there leaves the least as it is -/
theorem ps_mi_add {L : Nat → Nat → Prop} {P Q : Nat → Prop} {h : Int32} (hL : ps_T L) (a : ps_mi L P h) {l f : Nat} (hl : P l) (hf : L l f) (e : ∀ y, Q y ↔ (P y ∨ y = f)) : ps_mi L Q h := by
  rcases a with ⟨_, n⟩ | ⟨x, ex, p, m⟩
  · exact absurd hl (n l)
  · refine Or.inr ⟨x, ex, (e x).2 (Or.inl p), fun y hy => ?_⟩
    rcases (e y).1 hy with q | q
    · exact m y q
    · right
      rw [q]
      rcases m l hl with r | r
      · rw [← r]; exact hf
      · exact hL.2.1 _ _ _ r hf
theorem ps_ne {x : Nat} (hx : x < 2 ^ 31) : ¬ nI x = -1 := by
  intro h
  have e := congrArg Int32.toInt h
  rw [nI_toInt hx] at e
  have e2 : (-1 : Int32).toInt = -1 := by decide
  rw [e2] at e
  omega
theorem ps_inj {x y : Nat} (hx : x < 2 ^ 31) (hy : y < 2 ^ 31) (h : nI x = nI y) : x = y := (nI_eq hx hy).1 h
/-- by keys, equal keys by origin -/
def ps_L (K : Nat → Int32) (x y : Nat) : Prop := (K x).toInt < (K y).toInt ∨ ((K x).toInt = (K y).toInt ∧ x < y)
theorem ps_L_T (K : Nat → Int32) : ps_T (ps_L K) := by
  refine ⟨fun x h => ?_, fun x y z h h' => ?_, fun x y h => ?_⟩
  · unfold ps_L at h; omega
  · unfold ps_L at *; omega
  · unfold ps_L; omega
/-- by run numbers first -/
def ps_R (rn : Nat → Nat) (L : Nat → Nat → Prop) (x y : Nat) : Prop := rn x < rn y ∨ (rn x = rn y ∧ L x y)
theorem ps_R_T {rn : Nat → Nat} {L : Nat → Nat → Prop} (hL : ps_T L) : ps_T (ps_R rn L) := by
  refine ⟨fun x h => ?_, fun x y z h h' => ?_, fun x y h => ?_⟩
  · rcases h with h | h
    · omega
    · exact hL.1 x h.2
  · rcases h with h | h
    · rcases h' with h' | h'
      · exact Or.inl (by omega)
      · exact Or.inl (by omega)
    · rcases h' with h' | h'
      · exact Or.inl (by omega)
      · exact Or.inr ⟨by omega, hL.2.1 x y z h.2 h'.2⟩
  · by_cases e : rn x = rn y
    · rcases hL.2.2 x y h with q | q
      · exact Or.inl (Or.inr ⟨e, q⟩)
      · exact Or.inr (Or.inr ⟨e.symm, q⟩)
    · by_cases l : rn x < rn y
      · exact Or.inl (Or.inl l)
      · exact Or.inr (Or.inl (by omega))
theorem ps_R_le {rn : Nat → Nat} {L : Nat → Nat → Prop} {x y : Nat} (h : ps_R rn L x y) : rn x ≤ rn y := by
  rcases h with h | h
  · omega
  · omega
theorem ps_R_L {rn : Nat → Nat} {L : Nat → Nat → Prop} {x y : Nat} (h : ps_R rn L x y) (e : rn x = rn y) : L x y := by
  rcases h with h | h
  · omega
  · exact h.2
/-- how many of the first n -/
noncomputable def ps_nP (P : Nat → Prop) : Nat → Nat
  | 0 => 0
  | n + 1 => ps_nP P n + @ite Nat (P n) (Classical.propDecidable _) 1 0
theorem ps_nP_le (P : Nat → Prop) : ∀ n, ps_nP P n ≤ n := by
  intro n
  induction n with
  | zero => exact Nat.le_refl 0
  | succ n ih =>
    unfold ps_nP
    split <;> omega
theorem ps_nP_mono {P Q : Nat → Prop} (h : ∀ x, Q x → P x) : ∀ n, ps_nP Q n ≤ ps_nP P n := by
  intro n
  induction n with
  | zero => exact Nat.le_refl 0
  | succ n ih =>
    unfold ps_nP
    by_cases q : Q n
    · rw [if_pos q, if_pos (h n q)]; omega
    · rw [if_neg q]; omega
theorem ps_nP_lt {P Q : Nat → Prop} {r : Nat} (h : ∀ x, Q x → P x) (p : P r) (q : ¬ Q r) : ∀ n, r < n → ps_nP Q n < ps_nP P n := by
  intro n
  induction n with
  | zero => intro hr; omega
  | succ n ih =>
    intro hr
    unfold ps_nP
    by_cases e : r = n
    · subst e
      have m := ps_nP_mono h r
      rw [if_pos p, if_neg q]; omega
    · have i := ih (by omega)
      by_cases qn : Q n
      · rw [if_pos qn, if_pos (h n qn)]; omega
      · rw [if_neg qn]; omega
theorem ps_nP_0 {P : Nat → Prop} : ∀ n, ps_nP P n = 0 → ∀ x, x < n → ¬ P x := by
  intro n
  induction n with
  | zero => intro _ x hx; omega
  | succ n ih =>
    intro h x hx
    unfold ps_nP at h
    by_cases p : P n
    · rw [if_pos p] at h; omega
    · rw [if_neg p] at h
      by_cases e : x = n
      · subst e; exact p
      · exact ih (by omega) x (by omega)
end
section
/-! replacement selection. wr: the records that have left the workspace. -/
def ps_Feed (c : Nat) (L : Nat → Nat → Prop) (rn : Nat → Nat) (wr : Nat → Prop) (nx fo : Nat → Int32) (lw : Int32) : Prop :=
  (∀ x, wr x → x < c) ∧
  ((lw = -1 ∧ (∀ x, ¬ wr x) ∧ (∀ x, x < c → rn x = 1)) ∨
   (∃ l, lw = nI l ∧ wr l ∧ (∀ x, wr x → x = l ∨ ps_R rn L x l)
      ∧ (∀ x, x < c → ¬ wr x → ps_R rn L l x ∧ rn x ≤ rn l + 1)
      ∧ (∀ r, 1 ≤ r → r ≤ rn l → ps_mi L (fun x => wr x ∧ rn x = r) (fo (r - 1)))
      ∧ (∀ x, wr x → ps_mi L (fun y => wr y ∧ rn y = rn x ∧ L x y) (nx x))))
theorem ps_Feed0 (L : Nat → Nat → Prop) (rn : Nat → Nat) (nx fo : Nat → Int32) : ps_Feed 0 L rn (fun _ => False) nx fo (-1) :=
  ⟨fun _ h => h.elim, Or.inl ⟨rfl, fun _ h => h, fun x h => absurd h (Nat.not_lt_zero x)⟩⟩
/-- the first record of all leaves -/
theorem ps_wo0 {c : Nat} {L : Nat → Nat → Prop} {rn : Nat → Nat} {wr : Nat → Prop} {nx fo : Nat → Int32} {lw : Int32} (hL : ps_T L) (F : ps_Feed c L rn wr nx fo lw) (e : lw = -1) (hc : c < 2 ^ 31) {f : Nat} (hf : f < c) (hm : ∀ y, y < c → ¬ wr y → y = f ∨ ps_R rn L f y) :
    rn f = 1 ∧ ps_Feed c L rn (fun x => wr x ∨ x = f) (upd nx f (-1)) (upd fo (rn f - 1) (nI f)) (nI f) := by
  obtain ⟨wc, h⟩ := F
  rcases h with ⟨_, n, o⟩ | ⟨l, el, hl, _⟩
  · have r1 := o f hf
    refine ⟨r1, ?_, Or.inr ⟨f, rfl, Or.inr rfl, ?_, ?_, ?_, ?_⟩⟩
    · intro x hx
      rcases hx with hx | hx
      · exact wc x hx
      · omega
    · intro x hx
      rcases hx with hx | hx
      · exact absurd hx (n x)
      · exact Or.inl hx
    · intro x hx hw
      have nf : x ≠ f := fun z => hw (Or.inr z)
      rcases hm x hx (n x) with q | q
      · exact absurd q nf
      · exact ⟨q, by rw [o x hx]; omega⟩
    · intro r h1 h2
      have er : r = rn f := by omega
      rw [er]
      have eu : upd fo (rn f - 1) (nI f) (rn f - 1) = nI f := if_pos rfl
      rw [eu]
      refine ps_mi_1 f ⟨Or.inr rfl, rfl⟩ ?_
      intro y hy
      rcases hy.1 with q | q
      · exact absurd q (n y)
      · exact Or.inl q
    · intro x hx
      rcases hx with hx | hx
      · exact absurd hx (n x)
      · subst hx
        have eu : upd nx x (-1) x = -1 := if_pos rfl
        rw [eu]
        refine ps_mi_0 ?_
        intro y hy
        rcases hy.1 with q | q
        · exact n y q
        · rw [q] at hy; exact hL.1 _ hy.2.2
  · exact absurd (el.symm.trans e) (ps_ne (by have := wc l hl; omega))
/-- the first record of the next run leaves -/
theorem ps_woA {c : Nat} {L : Nat → Nat → Prop} {rn : Nat → Nat} {wr : Nat → Prop} {nx fo : Nat → Int32} {l : Nat} (hL : ps_T L) (F : ps_Feed c L rn wr nx fo (nI l)) (hc : c < 2 ^ 31) (hl31 : l < 2 ^ 31) {f : Nat} (hf : f < c) (hw : ¬ wr f) (hm : ∀ y, y < c → ¬ wr y → y = f ∨ ps_R rn L f y) (hr : ¬ rn l = rn f) :
    rn f = rn l + 1 ∧ ps_Feed c L rn (fun x => wr x ∨ x = f) (upd nx f (-1)) (upd fo (rn f - 1) (nI f)) (nI f) := by
  obtain ⟨wc, h⟩ := F
  rcases h with ⟨e, _⟩ | ⟨l', el, hl, hle, hin, hfo, hnx⟩
  · exact absurd e (ps_ne hl31)
  · have e : l = l' := ps_inj hl31 (by have := wc l' hl; omega) el
    subst e
    have hlf := hin f hf hw
    have hge := ps_R_le hlf.1
    have er : rn f = rn l + 1 := by omega
    have hmax : ∀ x, wr x → rn x ≤ rn l := by
      intro x hx
      rcases hle x hx with q | q
      · rw [q]; exact Nat.le_refl _
      · exact ps_R_le q
    refine ⟨er, ?_, Or.inr ⟨f, rfl, Or.inr rfl, ?_, ?_, ?_, ?_⟩⟩
    · intro x hx
      rcases hx with hx | hx
      · exact wc x hx
      · omega
    · intro x hx
      rcases hx with hx | hx
      · right; left; have := hmax x hx; omega
      · exact Or.inl hx
    · intro x hx hw'
      have nf : x ≠ f := fun z => hw' (Or.inr z)
      have nw : ¬ wr x := fun z => hw' (Or.inl z)
      rcases hm x hx nw with q | q
      · exact absurd q nf
      · exact ⟨q, by have := (hin x hx nw).2; omega⟩
    · intro r h1 h2
      by_cases e : r = rn f
      · subst e
        have eu : upd fo (rn f - 1) (nI f) (rn f - 1) = nI f := if_pos rfl
        rw [eu]
        refine ps_mi_1 f ⟨Or.inr rfl, rfl⟩ ?_
        intro y hy
        rcases hy.1 with q | q
        · have := hmax y q; have := hy.2; omega
        · exact Or.inl q
      · have eu : upd fo (rn f - 1) (nI f) (r - 1) = fo (r - 1) := if_neg (by omega)
        rw [eu]
        refine ps_mi_c ?_ (hfo r h1 (by omega))
        intro y
        constructor
        · intro a; exact ⟨Or.inl a.1, a.2⟩
        · intro a
          rcases a.1 with q | q
          · exact ⟨q, a.2⟩
          · exfalso; rw [q] at a; exact e a.2.symm
    · intro x hx
      rcases hx with hx | hx
      · have nf : x ≠ f := fun z => hw (z ▸ hx)
        have eu : upd nx f (-1) x = nx x := if_neg nf
        rw [eu]
        refine ps_mi_c ?_ (hnx x hx)
        intro y
        constructor
        · intro a; exact ⟨Or.inl a.1, a.2⟩
        · intro a
          rcases a.1 with q | q
          · exact ⟨q, a.2⟩
          · exfalso
            have := a.2.1
            rw [q] at this
            have := hmax x hx
            omega
      · subst hx
        have eu : upd nx x (-1) x = -1 := if_pos rfl
        rw [eu]
        refine ps_mi_0 ?_
        intro y hy
        rcases hy.1 with q | q
        · have := hmax y q; have := hy.2.1; omega
        · rw [q] at hy; exact hL.1 _ hy.2.2
/-- a further record of the same run leaves -/
theorem ps_woB {c : Nat} {L : Nat → Nat → Prop} {rn : Nat → Nat} {wr : Nat → Prop} {nx fo : Nat → Int32} {l : Nat} (hL : ps_T L) (F : ps_Feed c L rn wr nx fo (nI l)) (hc : c < 2 ^ 31) (hl31 : l < 2 ^ 31) {f : Nat} (hf : f < c) (hw : ¬ wr f) (hm : ∀ y, y < c → ¬ wr y → y = f ∨ ps_R rn L f y) (hr : rn l = rn f) :
    ps_Feed c L rn (fun x => wr x ∨ x = f) (upd (upd nx l (nI f)) f (-1)) fo (nI f) := by
  obtain ⟨wc, h⟩ := F
  rcases h with ⟨e, _⟩ | ⟨l', el, hl, hle, hin, hfo, hnx⟩
  · exact absurd e (ps_ne hl31)
  · have e : l = l' := ps_inj hl31 (by have := wc l' hl; omega) el
    subst e
    have hR := ps_R_T (rn := rn) hL
    have hlf := (hin f hf hw).1
    have hLf : L l f := ps_R_L hlf hr
    refine ⟨?_, Or.inr ⟨f, rfl, Or.inr rfl, ?_, ?_, ?_, ?_⟩⟩
    · intro x hx
      rcases hx with hx | hx
      · exact wc x hx
      · omega
    · intro x hx
      rcases hx with hx | hx
      · right
        rcases hle x hx with q | q
        · rw [q]; exact hlf
        · exact hR.2.1 _ _ _ q hlf
      · exact Or.inl hx
    · intro x hx hw'
      have nf : x ≠ f := fun z => hw' (Or.inr z)
      have nw : ¬ wr x := fun z => hw' (Or.inl z)
      rcases hm x hx nw with q | q
      · exact absurd q nf
      · exact ⟨q, by have := (hin x hx nw).2; omega⟩
    · intro r h1 h2
      have h := hfo r h1 (by omega)
      by_cases e : r = rn f
      · subst e
        refine ps_mi_add hL h (l := l) (f := f) ⟨hl, hr⟩ hLf ?_
        intro y
        constructor
        · intro a
          rcases a.1 with q | q
          · exact Or.inl ⟨q, a.2⟩
          · exact Or.inr q
        · intro a
          rcases a with a | a
          · exact ⟨Or.inl a.1, a.2⟩
          · exact ⟨Or.inr a, by rw [a]⟩
      · refine ps_mi_c ?_ h
        intro y
        constructor
        · intro a; exact ⟨Or.inl a.1, a.2⟩
        · intro a
          rcases a.1 with q | q
          · exact ⟨q, a.2⟩
          · exfalso; rw [q] at a; exact e a.2.symm
    · intro x hx
      rcases hx with hx | hx
      · have nf : x ≠ f := fun z => hw (z ▸ hx)
        have eu : upd (upd nx l (nI f)) f (-1) x = upd nx l (nI f) x := if_neg nf
        rw [eu]
        by_cases xl : x = l
        · subst xl
          have eu2 : upd nx x (nI f) x = nI f := if_pos rfl
          rw [eu2]
          refine ps_mi_1 f ⟨Or.inr rfl, hr.symm, hLf⟩ ?_
          intro y hy
          rcases hy.1 with q | q
          · exfalso
            rcases hle y q with z | z
            · rw [z] at hy; exact hL.1 _ hy.2.2
            · exact ps_as hL (ps_R_L z hy.2.1) hy.2.2
          · exact Or.inl q
        · have eu2 : upd nx l (nI f) x = nx x := if_neg xl
          rw [eu2]
          by_cases e : rn x = rn f
          · have hxl : L x l := by
              rcases hle x hx with q | q
              · exact absurd q xl
              · exact ps_R_L q (by omega)
            refine ps_mi_add hL (hnx x hx) (l := l) (f := f) ⟨hl, by omega, hxl⟩ hLf ?_
            intro y
            constructor
            · intro a
              rcases a.1 with q | q
              · exact Or.inl ⟨q, a.2⟩
              · exact Or.inr q
            · intro a
              rcases a with a | a
              · exact ⟨Or.inl a.1, a.2⟩
              · rw [a]; exact ⟨Or.inr rfl, e.symm, hL.2.1 _ _ _ hxl hLf⟩
          · refine ps_mi_c ?_ (hnx x hx)
            intro y
            constructor
            · intro a; exact ⟨Or.inl a.1, a.2⟩
            · intro a
              rcases a.1 with q | q
              · exact ⟨q, a.2⟩
              · exfalso; rw [q] at a; exact e a.2.1.symm
      · subst hx
        have eu : upd (upd nx l (nI x)) x (-1) x = -1 := if_pos rfl
        rw [eu]
        refine ps_mi_0 ?_
        intro y hy
        rcases hy.1 with q | q
        · rcases hle y q with z | z
          · rw [z] at hy; exact ps_as hL hLf hy.2.2
          · exact ps_as hL (hL.2.1 _ _ _ (ps_R_L z (by have := hy.2.1; omega)) hLf) hy.2.2
        · rw [q] at hy; exact hL.1 _ hy.2.2
/-- the order and the run numbers may change where there are no records -/
theorem ps_FeedC {c : Nat} {L L' : Nat → Nat → Prop} {rn rn' : Nat → Nat} {wr : Nat → Prop} {nx fo : Nat → Int32} {lw : Int32}
    (eL : ∀ x y, x < c → y < c → (L' x y ↔ L x y)) (er : ∀ x, x < c → rn' x = rn x) (F : ps_Feed c L rn wr nx fo lw) :
    ps_Feed c L' rn' wr nx fo lw := by
  obtain ⟨wc, h⟩ := F
  have tR : ∀ x y, x < c → y < c → ps_R rn L x y → ps_R rn' L' x y := by
    intro x y hx hy h
    rcases h with h | h
    · left; rw [er x hx, er y hy]; exact h
    · right; rw [er x hx, er y hy]; exact ⟨h.1, (eL x y hx hy).2 h.2⟩
  refine ⟨wc, ?_⟩
  rcases h with ⟨e, n, o⟩ | ⟨l, el, hl, hle, hin, hfo, hnx⟩
  · exact Or.inl ⟨e, n, fun x hx => by rw [er x hx]; exact o x hx⟩
  · have lc := wc l hl
    refine Or.inr ⟨l, el, hl, ?_, ?_, ?_, ?_⟩
    · intro x hx
      rcases hle x hx with q | q
      · exact Or.inl q
      · exact Or.inr (tR x l (wc x hx) lc q)
    · intro x hx hw
      have q := hin x hx hw
      exact ⟨tR l x lc hx q.1, by rw [er x hx, er l lc]; exact q.2⟩
    · intro r a b
      rw [er l lc] at b
      refine ps_mi_l ?_ ?_ (hfo r a b)
      · intro y
        constructor
        · intro h; exact ⟨h.1, by rw [er y (wc y h.1)]; exact h.2⟩
        · intro h; refine ⟨h.1, ?_⟩; have := h.2; rw [er y (wc y h.1)] at this; exact this
      · intro x y hx hy h
        exact (eL x y (wc x hx.1) (wc y hy.1)).2 h
    · intro x hx
      refine ps_mi_l ?_ ?_ (hnx x hx)
      · intro y
        constructor
        · intro h
          exact ⟨h.1, by rw [er y (wc y h.1), er x (wc x hx)]; exact h.2.1, (eL x y (wc x hx) (wc y h.1)).2 h.2.2⟩
        · intro h
          refine ⟨h.1, ?_, (eL x y (wc x hx) (wc y h.1)).1 h.2.2⟩
          have := h.2.1
          rw [er y (wc y h.1), er x (wc x hx)] at this
          exact this
      · intro a b ha hb h
        exact (eL a b (wc a ha.1) (wc b hb.1)).2 h
/-- a record arrives -/
theorem ps_add {c : Nat} {L : Nat → Nat → Prop} {rn : Nat → Nat} {wr : Nat → Prop} {nx fo : Nat → Int32} {lw : Int32}
    (F : ps_Feed c L rn wr nx fo lw) (h0 : lw = -1 → rn c = 1) (h1 : ∀ l, lw = nI l → wr l → ps_R rn L l c ∧ rn c ≤ rn l + 1) :
    ps_Feed (c + 1) L rn wr nx fo lw := by
  obtain ⟨wc, h⟩ := F
  refine ⟨fun x hx => Nat.lt_succ_of_lt (wc x hx), ?_⟩
  rcases h with ⟨e, n, o⟩ | ⟨l, el, hl, hle, hin, hfo, hnx⟩
  · refine Or.inl ⟨e, n, fun x hx => ?_⟩
    by_cases xc : x = c
    · rw [xc]; exact h0 e
    · exact o x (by omega)
  · refine Or.inr ⟨l, el, hl, hle, ?_, hfo, hnx⟩
    intro x hx hw
    by_cases xc : x = c
    · rw [xc]; exact h1 l el hl
    · exact hin x (by omega) hw
/-- the cells of the workspace hold just the records that have not left -/
def ps_Ws (c h : Nat) (ws : Nat → Nat) (wr : Nat → Prop) : Prop :=
  (∀ j, j < h → ws j < c ∧ ¬ wr (ws j)) ∧ (∀ i j, i < h → j < h → ws i = ws j → i = j) ∧ (∀ x, x < c → ¬ wr x → ∃ j, j < h ∧ ws j = x)
def ps_un (f : Nat → Nat) (k x : Nat) : Nat → Nat := fun j => if j = k then x else f j
theorem ps_us {f : Nat → Nat} {k x : Nat} : ps_un f k x k = x := if_pos rfl
theorem ps_uo {f : Nat → Nat} {k x j : Nat} (h : j ≠ k) : ps_un f k x j = f j := if_neg h
theorem ps_Ws0 (ws : Nat → Nat) (wr : Nat → Prop) : ps_Ws 0 0 ws wr :=
  ⟨fun j h => absurd h (Nat.not_lt_zero j), fun i _ h => absurd h (Nat.not_lt_zero i), fun x h => absurd h (Nat.not_lt_zero x)⟩
/-- a record is added in a free cell -/
theorem ps_WsA {c h : Nat} {ws : Nat → Nat} {wr : Nat → Prop} (w : ps_Ws c h ws wr) (hc : ∀ x, wr x → x < c) : ps_Ws (c + 1) (h + 1) (ps_un ws h c) wr := by
  obtain ⟨a, i, s⟩ := w
  refine ⟨?_, ?_, ?_⟩
  · intro j hj
    by_cases e : j = h
    · rw [e, ps_us]; exact ⟨by omega, fun z => by have := hc c z; omega⟩
    · rw [ps_uo e]; have := a j (by omega); exact ⟨by omega, this.2⟩
  · intro p q hp hq e
    by_cases ep : p = h
    · by_cases eq : q = h
      · omega
      · rw [ep, ps_us, ps_uo eq] at e; have := (a q (by omega)).1; omega
    · by_cases eq : q = h
      · rw [eq, ps_us, ps_uo ep] at e; have := (a p (by omega)).1; omega
      · rw [ps_uo ep, ps_uo eq] at e; exact i p q (by omega) (by omega) e
  · intro x hx hw
    by_cases e : x = c
    · exact ⟨h, by omega, by rw [ps_us, e]⟩
    · obtain ⟨j, hj, ej⟩ := s x (by omega) hw
      exact ⟨j, by omega, by rw [ps_uo (by omega)]; exact ej⟩
/-- the record in cell b leaves, and the next one takes its cell -/
theorem ps_WsB {c h b : Nat} {ws : Nat → Nat} {wr : Nat → Prop} (w : ps_Ws c h ws wr) (hc : ∀ x, wr x → x < c) (hb : b < h) : ps_Ws (c + 1) h (ps_un ws b c) (fun x => wr x ∨ x = ws b) := by
  obtain ⟨a, i, s⟩ := w
  have bc := (a b hb).1
  refine ⟨?_, ?_, ?_⟩
  · intro j hj
    by_cases e : j = b
    · rw [e, ps_us]
      refine ⟨by omega, fun z => ?_⟩
      rcases z with z | z
      · have := hc c z; omega
      · omega
    · rw [ps_uo e]
      have := a j hj
      refine ⟨by omega, fun z => ?_⟩
      rcases z with z | z
      · exact this.2 z
      · exact e (i j b hj hb z)
  · intro p q hp hq e
    by_cases ep : p = b
    · by_cases eq : q = b
      · omega
      · rw [ep, ps_us, ps_uo eq] at e; have := (a q hq).1; omega
    · by_cases eq : q = b
      · rw [eq, ps_us, ps_uo ep] at e; have := (a p hp).1; omega
      · rw [ps_uo ep, ps_uo eq] at e; exact i p q hp hq e
  · intro x hx hw
    by_cases e : x = c
    · exact ⟨b, hb, by rw [ps_us, e]⟩
    · obtain ⟨j, hj, ej⟩ := s x (by omega) (fun z => hw (Or.inl z))
      have jb : j ≠ b := fun z => hw (Or.inr (by rw [← ej, z]))
      exact ⟨j, hj, by rw [ps_uo jb]; exact ej⟩
/-- the record in cell b leaves, and the last cell's record takes its cell -/
theorem ps_WsC {c h b : Nat} {ws : Nat → Nat} {wr : Nat → Prop} (w : ps_Ws c (h + 1) ws wr) (hb : b < h + 1) : ps_Ws c h (ps_un ws b (ws h)) (fun x => wr x ∨ x = ws b) := by
  obtain ⟨a, i, s⟩ := w
  refine ⟨?_, ?_, ?_⟩
  · intro j hj
    by_cases e : j = b
    · rw [e, ps_us]
      have := a h (by omega)
      refine ⟨this.1, fun z => ?_⟩
      rcases z with z | z
      · exact this.2 z
      · have := i h b (by omega) hb z; omega
    · rw [ps_uo e]
      have := a j (by omega)
      refine ⟨this.1, fun z => ?_⟩
      rcases z with z | z
      · exact this.2 z
      · exact e (i j b (by omega) hb z)
  · intro p q hp hq e
    by_cases ep : p = b
    · by_cases eq : q = b
      · omega
      · rw [ep, ps_us, ps_uo eq] at e; have := i h q (by omega) (by omega) e; omega
    · by_cases eq : q = b
      · rw [eq, ps_us, ps_uo ep] at e; have := i p h (by omega) (by omega) e; omega
      · rw [ps_uo ep, ps_uo eq] at e; exact i p q (by omega) (by omega) e
  · intro x hx hw
    obtain ⟨j, hj, ej⟩ := s x hx (fun z => hw (Or.inl z))
    have jb : j ≠ b := fun z => hw (Or.inr (by rw [← ej, z]))
    by_cases e : j = h
    · exact ⟨b, by omega, by rw [ps_us, ← e]; exact ej⟩
    · exact ⟨j, by omega, by rw [ps_uo jb]; exact ej⟩
/-- the run numbers: at most half of the records, and one -/
def ps_Rn (c R : Nat) (rn : Nat → Nat) : Prop :=
  (∀ x, x < c → 1 ≤ rn x ∧ rn x ≤ R) ∧ (c = 0 → R = 0) ∧ (0 < c → ∃ x, x < c ∧ rn x = R) ∧ 2 * R ≤ c + 1 ∧ (∀ i, i + 1 < c → rn i = R → 2 * R ≤ c)
theorem ps_Rn0 (rn : Nat → Nat) : ps_Rn 0 0 rn :=
  ⟨fun x h => absurd h (Nat.not_lt_zero x), fun _ => rfl, fun h => absurd h (Nat.lt_irrefl 0), by omega, fun i h => absurd h (Nat.not_lt_zero _)⟩
/-- a record of a run that is there already -/
theorem ps_RnA {c R : Nat} {rn rn' : Nat → Nat} (h : ps_Rn c R rn) (e : ∀ x, x < c → rn' x = rn x) (h0 : 1 ≤ rn' c) (h1 : rn' c ≤ R) : ps_Rn (c + 1) R rn' := by
  obtain ⟨a, z, s, b, d⟩ := h
  refine ⟨?_, by omega, ?_, by omega, ?_⟩
  · intro x hx
    by_cases xc : x = c
    · rw [xc]; exact ⟨h0, h1⟩
    · rw [e x (by omega)]; exact a x (by omega)
  · intro _
    by_cases c0 : c = 0
    · have := z c0; omega
    · obtain ⟨x, hx, ex⟩ := s (by omega)
      exact ⟨x, by omega, by rw [e x hx]; exact ex⟩
  · intro i hi _; omega
/-- the first record of all, or of the next run: two records of run R are there -/
theorem ps_RnB {c R : Nat} {rn rn' : Nat → Nat} (h : ps_Rn c R rn) (e : ∀ x, x < c → rn' x = rn x) (h1 : rn' c = R + 1) (h2 : c = 0 ∨ ∃ i j, i < c ∧ j < c ∧ i ≠ j ∧ rn i = R ∧ rn j = R) : ps_Rn (c + 1) (R + 1) rn' := by
  obtain ⟨a, z, s, b, d⟩ := h
  have hb : 2 * R ≤ c := by
    rcases h2 with h2 | ⟨i, j, hi, hj, ne, ei, ej⟩
    · have := z h2; omega
    · by_cases q : i + 1 < c
      · exact d i q ei
      · exact d j (by omega) ej
  refine ⟨?_, by omega, fun _ => ⟨c, by omega, h1⟩, by omega, ?_⟩
  · intro x hx
    by_cases xc : x = c
    · rw [xc, h1]; omega
    · rw [e x (by omega)]; have := a x (by omega); omega
  · intro i hi ei
    rw [e i (by omega)] at ei
    have := a i (by omega)
    omega
end
section
/-! the tapes. A slot is tape * 32 + place; rc: how many runs a tape holds; fs: the place of its first. -/
def ps_live (fs rc : Nat → Nat) (s : Nat) : Prop := s < 128 ∧ (s % 32 + 32 - fs (s / 32)) % 32 < rc (s / 32)
/-- every record has a live slot as its owner; the chains are the owners' records in order -/
def ps_Own (c : Nat) (L : Nat → Nat → Prop) (own : Nat → Nat) (live : Nat → Prop) (nx rs : Nat → Int32) : Prop :=
  (∀ x, x < c → live (own x)) ∧ (∀ s, live s → ps_mi L (fun x => x < c ∧ own x = s) (rs s)) ∧ (∀ x, x < c → ps_mi L (fun y => y < c ∧ own y = own x ∧ L x y) (nx x))
/-- the distribution, when w runs are written: sl r is run r's slot -/
def ps_Dist (c : Nat) (L : Nat → Nat → Prop) (rn : Nat → Nat) (w : Nat) (sl fs rc : Nat → Nat) (rs : Nat → Int32) : Prop :=
  (∀ r, 1 ≤ r → r ≤ w → ps_live fs rc (sl r)) ∧ (∀ p q, 1 ≤ p → p ≤ w → 1 ≤ q → q ≤ w → sl p = sl q → p = q) ∧ (∀ s, ps_live fs rc s → ps_mi L (fun x => x < c ∧ rn x ≤ w ∧ sl (rn x) = s) (rs s))
theorem ps_Dist0 (c : Nat) (L : Nat → Nat → Prop) (rn sl fs rc : Nat → Nat) (rs : Nat → Int32) (h0 : ∀ t, t < 4 → rc t = 0) : ps_Dist c L rn 0 sl fs rc rs :=
  ⟨fun r a b => by omega, fun p q a b _ _ _ => by omega, fun s h => by
    have h2 := h.2
    rw [h0 (s / 32) (by have := h.1; omega)] at h2
    exact absurd h2 (Nat.not_lt_zero _)⟩
theorem ps_liveU {fs rc : Nat → Nat} {t s : Nat} (h0 : ∀ t, t < 4 → fs t = 0) (ht : t < 4) (hr : rc t < 32) : ps_live fs (ps_un rc t (rc t + 1)) s ↔ (ps_live fs rc s ∨ s = t * 32 + rc t) := by
  unfold ps_live
  by_cases q : s / 32 = t
  · rw [q, ps_us, h0 t ht]; constructor
    · intro h; omega
    · intro h; omega
  · rw [ps_uo q]; constructor
    · intro h; exact Or.inl h
    · intro h
      rcases h with h | h
      · exact h
      · omega
theorem ps_liveN {fs rc : Nat → Nat} {t : Nat} (h0 : ∀ t, t < 4 → fs t = 0) (ht : t < 4) (hr : rc t < 32) : ¬ ps_live fs rc (t * 32 + rc t) := by
  intro h
  have h2 := h.2
  have e : (t * 32 + rc t) / 32 = t := by omega
  rw [e, h0 t ht] at h2
  omega
/-- a dummy run is appended -/
theorem ps_DistD {c w t : Nat} {L : Nat → Nat → Prop} {rn sl fs rc : Nat → Nat} {rs : Nat → Int32} (D : ps_Dist c L rn w sl fs rc rs) (h1 : ∀ x, x < c → 1 ≤ rn x) (h0 : ∀ t, t < 4 → fs t = 0) (ht : t < 4) (hr : rc t < 32) : ps_Dist c L rn w sl fs (ps_un rc t (rc t + 1)) (upd rs (t * 32 + rc t) (-1)) := by
  obtain ⟨a, i, m⟩ := D
  refine ⟨fun r p q => (ps_liveU h0 ht hr).2 (Or.inl (a r p q)), i, fun s hs => ?_⟩
  by_cases e : s = t * 32 + rc t
  · have eu : upd rs (t * 32 + rc t) (-1) s = -1 := if_pos e
    rw [eu]
    refine ps_mi_0 ?_
    intro y hy
    have l := a (rn y) (h1 y hy.1) hy.2.1
    rw [hy.2.2, e] at l
    exact ps_liveN h0 ht hr l
  · have eu : upd rs (t * 32 + rc t) (-1) s = rs s := if_neg e
    rw [eu]
    rcases (ps_liveU h0 ht hr).1 hs with q | q
    · exact m s q
    · exact absurd q e
/-- run w + 1 is appended -/
theorem ps_DistR {c w t : Nat} {L : Nat → Nat → Prop} {rn sl fs rc : Nat → Nat} {rs : Nat → Int32} {h : Int32} (D : ps_Dist c L rn w sl fs rc rs) (h1 : ∀ x, x < c → 1 ≤ rn x) (h0 : ∀ t, t < 4 → fs t = 0) (ht : t < 4) (hr : rc t < 32) (hh : ps_mi L (fun x => x < c ∧ rn x = w + 1) h) :
    ps_Dist c L rn (w + 1) (ps_un sl (w + 1) (t * 32 + rc t)) fs (ps_un rc t (rc t + 1)) (upd rs (t * 32 + rc t) h) := by
  obtain ⟨a, i, m⟩ := D
  refine ⟨?_, ?_, ?_⟩
  · intro r p q
    by_cases e : r = w + 1
    · rw [e, ps_us]; exact (ps_liveU h0 ht hr).2 (Or.inr rfl)
    · rw [ps_uo e]; exact (ps_liveU h0 ht hr).2 (Or.inl (a r p (by omega)))
  · intro p q p1 pw q1 qw e
    by_cases ep : p = w + 1
    · by_cases eq : q = w + 1
      · omega
      · rw [ep, ps_us, ps_uo eq] at e
        have l := a q q1 (by omega)
        rw [← e] at l
        exact absurd l (ps_liveN h0 ht hr)
    · by_cases eq : q = w + 1
      · rw [eq, ps_us, ps_uo ep] at e
        have l := a p p1 (by omega)
        rw [e] at l
        exact absurd l (ps_liveN h0 ht hr)
      · rw [ps_uo ep, ps_uo eq] at e
        exact i p q p1 (by omega) q1 (by omega) e
  · intro s hs
    by_cases e : s = t * 32 + rc t
    · have eu : upd rs (t * 32 + rc t) h s = h := if_pos e
      rw [eu]
      refine ps_mi_c ?_ hh
      intro y
      constructor
      · intro z
        refine ⟨z.1, by omega, ?_⟩
        rw [z.2, ps_us]; exact e.symm
      · intro z
        refine ⟨z.1, ?_⟩
        by_cases ew : rn y = w + 1
        · exact ew
        · exfalso
          have z2 := z.2.2
          rw [ps_uo ew, e] at z2
          have l := a (rn y) (h1 y z.1) (by have := z.2.1; omega)
          rw [z2] at l
          exact ps_liveN h0 ht hr l
    · have eu : upd rs (t * 32 + rc t) h s = rs s := if_neg e
      rw [eu]
      rcases (ps_liveU h0 ht hr).1 hs with q | q
      · refine ps_mi_c ?_ (m s q)
        intro y
        constructor
        · intro z
          refine ⟨z.1, by have := z.2.1; omega, ?_⟩
          rw [ps_uo (by have := z.2.1; omega)]; exact z.2.2
        · intro z
          by_cases ew : rn y = w + 1
          · exfalso
            have z2 := z.2.2
            rw [ew, ps_us] at z2
            exact e z2.symm
          · refine ⟨z.1, by have := z.2.1; omega, ?_⟩
            have z2 := z.2.2
            rw [ps_uo ew] at z2
            exact z2
      · exact absurd q e
/-- all runs are written: the records' owners -/
theorem ps_DistE {c R : Nat} {L : Nat → Nat → Prop} {rn sl fs rc : Nat → Nat} {rs nx : Nat → Int32} (D : ps_Dist c L rn R sl fs rc rs) (h1 : ∀ x, x < c → 1 ≤ rn x ∧ rn x ≤ R) (hn : ∀ x, x < c → ps_mi L (fun y => y < c ∧ rn y = rn x ∧ L x y) (nx x)) : ps_Own c L (fun x => sl (rn x)) (ps_live fs rc) nx rs := by
  obtain ⟨a, i, m⟩ := D
  refine ⟨fun x hx => a _ (h1 x hx).1 (h1 x hx).2, fun s hs => ?_, fun x hx => ?_⟩
  · refine ps_mi_c ?_ (m s hs)
    intro y
    exact ⟨fun z => ⟨z.1, z.2.2⟩, fun z => ⟨z.1, (h1 y z.1).2, z.2⟩⟩
  · refine ps_mi_c ?_ (hn x hx)
    intro y
    constructor
    · intro z; exact ⟨z.1, by show sl (rn y) = sl (rn x); rw [z.2.1], z.2.2⟩
    · intro z; exact ⟨z.1, i _ _ (h1 y z.1).1 (h1 y z.1).2 (h1 x hx).1 (h1 x hx).2 z.2.1, z.2.2⟩
/-! merging: U t x says that x is a record of the run taken from tape t -/
def ps_Un (T : Nat) (U : Nat → Nat → Prop) (x : Nat) : Prop := ∃ t, t < T ∧ U t x
def ps_MI (T : Nat) (L : Nat → Nat → Prop) (U : Nat → Nat → Prop) (nx0 mh nx : Nat → Int32) (fi la : Int32) : Prop :=
  (la = -1 ∧ fi = -1 ∧ nx = nx0 ∧ ∀ t, t < T → ps_mi L (U t) (mh t)) ∨
  (∃ l, la = nI l ∧ ps_Un T U l ∧ ps_mi L (ps_Un T U) fi ∧ (∀ t, t < T → ps_mi L (fun x => U t x ∧ L l x) (mh t))
    ∧ (∀ x, ps_Un T U x → L x l → ps_mi L (fun y => ps_Un T U y ∧ L x y) (nx x)) ∧ (∀ x, ¬ (ps_Un T U x ∧ L x l) → nx x = nx0 x))
/-- the records that are still to come -/
def ps_rem (T : Nat) (L : Nat → Nat → Prop) (U : Nat → Nat → Prop) (la : Int32) (x : Nat) : Prop := ps_Un T U x ∧ (la = -1 ∨ ∃ l, la = nI l ∧ l < 2 ^ 31 ∧ L l x)
def ps_Ud (T : Nat) (U : Nat → Nat → Prop) : Prop := (∀ t x, t < T → U t x → x < 64) ∧ (∀ t t' x, t < T → t' < T → U t x → U t' x → t = t')
/-- the first turn -/
theorem ps_M1 {T : Nat} {L : Nat → Nat → Prop} {U : Nat → Nat → Prop} {nx0 mh : Nat → Int32} (hL : ps_T L) (hU : ps_Ud T U) (hn : ∀ t x, t < T → U t x → ps_mi L (fun y => U t y ∧ L x y) (nx0 x)) (hm : ∀ t, t < T → ps_mi L (U t) (mh t)) {b r : Nat} (hb : b < T) (hr : U b r) (hle : ∀ x, ps_Un T U x → x = r ∨ L r x) :
    ps_MI T L U nx0 (upd mh b (nx0 r)) nx0 (nI r) (nI r) := by
  refine Or.inr ⟨r, rfl, ⟨b, hb, hr⟩, ps_mi_1 r ⟨b, hb, hr⟩ hle, ?_, ?_, fun x _ => rfl⟩
  · intro t ht
    by_cases e : t = b
    · have eu : upd mh b (nx0 r) t = nx0 r := if_pos e
      rw [eu, e]; exact hn b r hb hr
    · have eu : upd mh b (nx0 r) t = mh t := if_neg e
      rw [eu]
      refine ps_mi_c ?_ (hm t ht)
      intro y
      constructor
      · intro z
        refine ⟨z, ?_⟩
        rcases hle y ⟨t, ht, z⟩ with q | q
        · rw [q] at z; exact absurd (hU.2 t b r ht hb z hr) e
        · exact q
      · intro z; exact z.1
  · intro x hx h
    rcases hle x hx with q | q
    · rw [q] at h; exact absurd h (hL.1 r)
    · exact (ps_as hL h q).elim
/-- a further turn -/
theorem ps_M2 {T : Nat} {L : Nat → Nat → Prop} {U : Nat → Nat → Prop} {nx0 mh nx : Nat → Int32} {fi : Int32} {l : Nat} (hL : ps_T L) (hU : ps_Ud T U) (hn : ∀ t x, t < T → U t x → ps_mi L (fun y => U t y ∧ L x y) (nx0 x))
    (hl : ps_Un T U l) (hf : ps_mi L (ps_Un T U) fi) (hm : ∀ t, t < T → ps_mi L (fun x => U t x ∧ L l x) (mh t))
    (hd : ∀ x, ps_Un T U x → L x l → ps_mi L (fun y => ps_Un T U y ∧ L x y) (nx x)) (hk : ∀ x, ¬ (ps_Un T U x ∧ L x l) → nx x = nx0 x)
    {b r : Nat} (hb : b < T) (hr : U b r) (hlr : L l r) (hle : ∀ x, ps_Un T U x → L l x → x = r ∨ L r x) :
    ps_MI T L U nx0 (upd mh b (nx r)) (upd nx l (nI r)) fi (nI r) := by
  have er : nx r = nx0 r := hk r (fun z => ps_as hL z.2 hlr)
  refine Or.inr ⟨r, rfl, ⟨b, hb, hr⟩, hf, ?_, ?_, ?_⟩
  · intro t ht
    by_cases e : t = b
    · have eu : upd mh b (nx r) t = nx r := if_pos e
      rw [eu, e, er]; exact hn b r hb hr
    · have eu : upd mh b (nx r) t = mh t := if_neg e
      rw [eu]
      refine ps_mi_c ?_ (hm t ht)
      intro y
      constructor
      · intro z
        refine ⟨z.1, ?_⟩
        rcases hle y ⟨t, ht, z.1⟩ z.2 with q | q
        · rw [q] at z; exact absurd (hU.2 t b r ht hb z.1 hr) e
        · exact q
      · intro z; exact ⟨z.1, hL.2.1 _ _ _ hlr z.2⟩
  · intro x hx h
    by_cases e : x = l
    · have eu : upd nx l (nI r) x = nI r := if_pos e
      rw [eu, e]
      refine ps_mi_1 r ⟨⟨b, hb, hr⟩, hlr⟩ ?_
      intro y hy; exact hle y hy.1 hy.2
    · have eu : upd nx l (nI r) x = nx x := if_neg e
      rw [eu]
      refine hd x hx ?_
      rcases hL.2.2 x l e with q | q
      · exact q
      · rcases hle x hx q with z | z
        · rw [z] at h; exact absurd h (hL.1 r)
        · exact (ps_as hL h z).elim
  · intro x hx
    have e : x ≠ l := fun z => hx (z ▸ ⟨hl, hlr⟩)
    have eu : upd nx l (nI r) x = nx x := if_neg e
    rw [eu]
    refine hk x (fun z => hx ⟨z.1, hL.2.1 _ _ _ z.2 hlr⟩)
/-- nothing is left -/
theorem ps_ME {T : Nat} {L : Nat → Nat → Prop} {U : Nat → Nat → Prop} {nx0 mh nx : Nat → Int32} {fi la : Int32} (hL : ps_T L) (hU : ps_Ud T U) (hn : ∀ t x, t < T → U t x → ps_mi L (fun y => U t y ∧ L x y) (nx0 x))
    (I : ps_MI T L U nx0 mh nx fi la) (h0 : ∀ x, x < 64 → ¬ ps_rem T L U la x) :
    ps_mi L (ps_Un T U) fi ∧ (∀ x, ps_Un T U x → ps_mi L (fun y => ps_Un T U y ∧ L x y) (nx x)) ∧ (∀ x, ¬ ps_Un T U x → nx x = nx0 x) := by
  have lt : ∀ x, ps_Un T U x → x < 64 := fun x ⟨t, ht, h⟩ => hU.1 t x ht h
  rcases I with ⟨el, ef, en, hm⟩ | ⟨l, el, hl, hf, hm, hd, hk⟩
  · have no : ∀ x, ¬ ps_Un T U x := fun x hx => h0 x (lt x hx) ⟨hx, Or.inl el⟩
    refine ⟨ef ▸ ps_mi_0 no, fun x hx => absurd hx (no x), fun x _ => by rw [en]⟩
  · have no : ∀ x, ps_Un T U x → ¬ L l x := fun x hx h => h0 x (lt x hx) ⟨hx, Or.inr ⟨l, el, by have := lt l hl; omega, h⟩⟩
    refine ⟨hf, ?_, fun x hx => hk x (fun z => hx z.1)⟩
    intro x hx
    by_cases e : x = l
    · rw [e]
      have el2 : nx l = nx0 l := hk l (fun z => hL.1 l z.2)
      obtain ⟨t, ht, hlt⟩ := hl
      have q := hn t l ht hlt
      rw [el2]
      refine ps_mi_c ?_ q
      intro y
      constructor
      · intro z; exact absurd z.2 (no y ⟨t, ht, z.1⟩)
      · intro z; exact absurd z.2 (no y z.1)
    · rcases hL.2.2 x l e with q | q
      · exact hd x hx q
      · exact absurd q (no x hx)
noncomputable def ps_ow (T : Nat) (U : Nat → Nat → Prop) (Z : Nat) (own : Nat → Nat) (x : Nat) : Nat := @ite Nat (ps_Un T U x) (Classical.propDecidable _) Z (own x)
theorem ps_ow_t {T : Nat} {U : Nat → Nat → Prop} {Z : Nat} {own : Nat → Nat} {x : Nat} (h : ps_Un T U x) : ps_ow T U Z own x = Z := if_pos h
theorem ps_ow_f {T : Nat} {U : Nat → Nat → Prop} {Z : Nat} {own : Nat → Nat} {x : Nat} (h : ¬ ps_Un T U x) : ps_ow T U Z own x = own x := if_neg h
/-- the owners after a merge: Z is the slot of the merged run, Rm are the slots taken -/
theorem ps_OwnM {c T Z : Nat} {L : Nat → Nat → Prop} {own : Nat → Nat} {live live' Rm : Nat → Prop} {nx nx' rs rs' : Nat → Int32} {U : Nat → Nat → Prop} {fi : Int32}
    (O : ps_Own c L own live nx rs) (hu : ∀ x, ps_Un T U x ↔ (x < c ∧ Rm (own x))) (hZ : ¬ live Z)
    (hl : ∀ s, live' s ↔ ((live s ∧ ¬ Rm s) ∨ s = Z))
    (hs : ∀ s, s ≠ Z → rs' s = rs s) (hz : rs' Z = fi) (hf : ps_mi L (ps_Un T U) fi)
    (hd : ∀ x, ps_Un T U x → ps_mi L (fun y => ps_Un T U y ∧ L x y) (nx' x)) (hk : ∀ x, ¬ ps_Un T U x → nx' x = nx x) :
    ∃ own' : Nat → Nat, ps_Own c L own' live' nx' rs' := by
  obtain ⟨a, m, n⟩ := O
  have u1 : ∀ x, ps_Un T U x → x < c := fun x h => ((hu x).1 h).1
  have u2 : ∀ x y, x < c → y < c → own x = own y → ps_Un T U x → ps_Un T U y := by
    intro x y _ hy e h
    exact (hu y).2 ⟨hy, e ▸ ((hu x).1 h).2⟩
  refine ⟨ps_ow T U Z own, ?_, ?_, ?_⟩
  · intro x hx
    by_cases q : ps_Un T U x
    · rw [ps_ow_t q]; exact (hl Z).2 (Or.inr rfl)
    · rw [ps_ow_f q]
      exact (hl _).2 (Or.inl ⟨a x hx, fun z => q ((hu x).2 ⟨hx, z⟩)⟩)
  · intro s hls
    by_cases e : s = Z
    · rw [e, hz]
      refine ps_mi_c ?_ hf
      intro y
      constructor
      · intro hy; exact ⟨u1 y hy, ps_ow_t hy⟩
      · intro hy
        by_cases q : ps_Un T U y
        · exact q
        · exfalso
          have e2 := hy.2
          rw [ps_ow_f q] at e2
          exact hZ (e2 ▸ a y hy.1)
    · rw [hs s e]
      rcases (hl s).1 hls with h | h
      · refine ps_mi_c ?_ (m s h.1)
        intro y
        constructor
        · intro hy
          have q : ¬ ps_Un T U y := fun z => h.2 (hy.2 ▸ ((hu y).1 z).2)
          exact ⟨hy.1, by rw [ps_ow_f q]; exact hy.2⟩
        · intro hy
          by_cases q : ps_Un T U y
          · exfalso
            have e2 := hy.2
            rw [ps_ow_t q] at e2
            exact e e2.symm
          · have e2 := hy.2
            rw [ps_ow_f q] at e2
            exact ⟨hy.1, e2⟩
      · exact absurd h e
  · intro x hx
    by_cases q : ps_Un T U x
    · refine ps_mi_c ?_ (hd x q)
      intro y
      constructor
      · intro hy; exact ⟨u1 y hy.1, by rw [ps_ow_t q, ps_ow_t hy.1], hy.2⟩
      · intro hy
        by_cases qy : ps_Un T U y
        · exact ⟨qy, hy.2.2⟩
        · exfalso
          have e2 := hy.2.1
          rw [ps_ow_t q, ps_ow_f qy] at e2
          exact hZ (e2 ▸ a y hy.1)
    · rw [hk x q]
      refine ps_mi_c ?_ (n x hx)
      intro y
      constructor
      · intro hy
        have qy : ¬ ps_Un T U y := fun z => q (u2 y x hy.1 hx hy.2.1 z)
        exact ⟨hy.1, by rw [ps_ow_f q, ps_ow_f qy]; exact hy.2.1, hy.2.2⟩
      · intro hy
        by_cases qy : ps_Un T U y
        · exfalso
          have e2 := hy.2.1
          rw [ps_ow_f q, ps_ow_t qy] at e2
          exact hZ (e2 ▸ a x hx)
        · have e2 := hy.2.1
          rw [ps_ow_f q, ps_ow_f qy] at e2
          exact ⟨hy.1, e2, hy.2.2⟩
/-! the live slots after a merge -/
def ps_f1 (T f : Nat) (fsN : Nat → Nat) (t : Nat) : Nat := if t < T ∧ t ≠ f then (fsN t + 1) % 32 else fsN t
def ps_r1 (T f : Nat) (rcN : Nat → Nat) (t : Nat) : Nat := if t = f then rcN t + 1 else if t < T then rcN t - 1 else rcN t
theorem ps_liveM {T f s : Nat} {fsN rcN : Nat → Nat} (hT : T ≤ 4) (hf : f < T) (h32 : ∀ t, t < 4 → fsN t < 32) (h1 : ∀ t, t < T → t ≠ f → 1 ≤ rcN t ∧ rcN t ≤ 32) (hr : rcN f < 32) :
    ps_live (ps_f1 T f fsN) (ps_r1 T f rcN) s ↔ ((ps_live fsN rcN s ∧ ¬ (∃ t, t < T ∧ t ≠ f ∧ s = t * 32 + fsN t)) ∨ s = f * 32 + (fsN f + rcN f) % 32) := by
  unfold ps_live
  by_cases b : s < 128
  · have a32 := h32 (s / 32) (by omega)
    by_cases e : s / 32 = f
    · have e1 : ps_f1 T f fsN (s / 32) = fsN f := by unfold ps_f1; rw [if_neg (by omega), e]
      have e2 : ps_r1 T f rcN (s / 32) = rcN f + 1 := by unfold ps_r1; rw [if_pos e, e]
      rw [e1, e2, e]
      rw [e] at a32
      constructor
      · intro h
        by_cases q : (s % 32 + 32 - fsN f) % 32 < rcN f
        · left
          refine ⟨⟨b, q⟩, fun ⟨t, ht, tf, es⟩ => ?_⟩
          have := h32 t (by omega)
          omega
        · right; omega
      · intro h
        rcases h with h | h
        · exact ⟨b, by omega⟩
        · exact ⟨b, by omega⟩
    · by_cases g : s / 32 < T
      · have k1 := h1 _ g e
        have e1 : ps_f1 T f fsN (s / 32) = (fsN (s / 32) + 1) % 32 := by unfold ps_f1; rw [if_pos ⟨g, e⟩]
        have e2 : ps_r1 T f rcN (s / 32) = rcN (s / 32) - 1 := by unfold ps_r1; rw [if_neg e, if_pos g]
        rw [e1, e2]
        constructor
        · intro h
          left
          refine ⟨⟨b, by omega⟩, fun ⟨t, ht, tf, es⟩ => ?_⟩
          have ft := h32 t (by omega)
          have et : s / 32 = t := by omega
          rw [← et] at es
          omega
        · intro h
          rcases h with h | h
          · have ne : s % 32 ≠ fsN (s / 32) := by
              intro z
              exact h.2 ⟨s / 32, g, e, by omega⟩
            exact ⟨b, by omega⟩
          · exfalso; apply e; omega
      · have e1 : ps_f1 T f fsN (s / 32) = fsN (s / 32) := by unfold ps_f1; rw [if_neg (by omega)]
        have e2 : ps_r1 T f rcN (s / 32) = rcN (s / 32) := by unfold ps_r1; rw [if_neg e, if_neg g]
        rw [e1, e2]
        constructor
        · intro h
          left
          refine ⟨h, fun ⟨t, ht, tf, es⟩ => ?_⟩
          have := h32 t (by omega)
          omega
        · intro h
          rcases h with h | h
          · exact h.1
          · exfalso; apply e; omega
  · constructor
    · intro h; exact absurd h.1 b
    · intro h
      rcases h with h | h
      · exact absurd h.1.1 b
      · exfalso; omega
theorem ps_liveZ {f : Nat} {fsN rcN : Nat → Nat} (h32 : fsN f < 32) (hr : rcN f < 32) : ¬ ps_live fsN rcN (f * 32 + (fsN f + rcN f) % 32) := by
  intro h
  have h2 := h.2
  have e : (f * 32 + (fsN f + rcN f) % 32) / 32 = f := by omega
  rw [e] at h2
  omega
end
section
/-! perfect distributions and the counts of the runs on the tapes. -/
def ps_pa (T : Nat) : Nat → Nat → Nat
  | 0, j => if j = 0 then 1 else 0
  | n + 1, j => if j + 1 < T then ps_pa T n 0 + ps_pa T n (j + 1) else 0
def ps_tt (T n : Nat) : Nat := ps_pa T n 0 + ps_pa T n 1 + ps_pa T n 2
def ps_T34 (T : Nat) : Prop := T = 3 ∨ T = 4
theorem ps_pa_s (T n j : Nat) : ps_pa T (n + 1) j = if j + 1 < T then ps_pa T n 0 + ps_pa T n (j + 1) else 0 := rfl
theorem ps_pa_0 {T n j : Nat} (hT : ps_T34 T) (h : T ≤ j + 1) : ps_pa T n j = 0 := by
  cases n with
  | zero => exact if_neg (by rcases hT with e | e <;> omega)
  | succ n => exact if_neg (by omega)
theorem ps_tab3 : ∀ n, n < 8 → ps_pa 3 n 0 ≤ 24 ∧ ps_pa 3 n 1 ≤ 24 ∧ (n = 0 ∨ 1 ≤ ps_pa 3 n 1) ∧ ps_pa 3 n 1 ≤ ps_pa 3 n 0 := by decide
theorem ps_tab4 : ∀ n, n < 7 → ps_pa 4 n 0 ≤ 24 ∧ ps_pa 4 n 1 ≤ 24 ∧ ps_pa 4 n 2 ≤ 24 ∧ (n = 0 ∨ 1 ≤ ps_pa 4 n 2) ∧ ps_pa 4 n 2 ≤ ps_pa 4 n 1 ∧ ps_pa 4 n 1 ≤ ps_pa 4 n 0 := by decide
theorem ps_tt3 : 32 ≤ ps_tt 3 7 := by decide
theorem ps_tt4 : 32 ≤ ps_tt 4 6 := by decide
/-- the level: the least whose total is enough -/
theorem ps_lev {T R : Nat} (hT : ps_T34 T) (hR : R ≤ 32) : ∃ n, n + T ≤ 10 ∧ R ≤ ps_tt T n ∧ ∀ m, m < n → ps_tt T m < R := by
  have ex : ∃ k, k + T ≤ 10 ∧ R ≤ ps_tt T k := by
    rcases hT with e | e
    · subst e; exact ⟨7, by omega, Nat.le_trans hR ps_tt3⟩
    · subst e; exact ⟨6, by omega, Nat.le_trans hR ps_tt4⟩
  obtain ⟨k, hk, hR2⟩ := ex
  have st : ∀ d, d ≤ k → (∃ n, n ≤ d ∧ R ≤ ps_tt T n ∧ ∀ m, m < n → ps_tt T m < R) ∨ (∀ m, m ≤ d → ps_tt T m < R) := by
    intro d
    induction d with
    | zero =>
      intro _
      by_cases q : R ≤ ps_tt T 0
      · exact Or.inl ⟨0, Nat.le_refl 0, q, fun m h => absurd h (Nat.not_lt_zero m)⟩
      · right; intro m hm
        have : m = 0 := by omega
        subst this; omega
    | succ d ih =>
      intro hd
      rcases ih (by omega) with ⟨n, hn, a, b⟩ | h
      · exact Or.inl ⟨n, by omega, a, b⟩
      · by_cases q : R ≤ ps_tt T (d + 1)
        · exact Or.inl ⟨d + 1, Nat.le_refl _, q, fun m hm => h m (by omega)⟩
        · right; intro m hm
          by_cases e : m = d + 1
          · subst e; omega
          · exact h m (by omega)
  rcases st k (Nat.le_refl k) with ⟨n, hn, a, b⟩ | h
  · exact ⟨n, by omega, a, b⟩
  · have := h k (Nat.le_refl k); omega
/-- the counts of the runs at level n, output tape f, after d merges of the phase -/
def ps_Rc (T n f d : Nat) (rc : Nat → Nat) : Prop := ∀ t, t < T → rc t = if t = f then d else ps_pa T n ((t + T - f - 1) % T) - d
/-- a merge that doesn't end the phase, one that does -/
theorem ps_RcM {T n f d : Nat} {rc rc' : Nat → Nat} (hf : f < T) (h : ps_Rc T n f d rc) (h' : ∀ t, t < T → rc' t = if t = f then rc t + 1 else rc t - 1) : ps_Rc T n f (d + 1) rc' := by
  intro t ht
  rw [h' t ht, h t ht]
  by_cases e : t = f
  · rw [if_pos e, if_pos e, if_pos e]
  · rw [if_neg e, if_neg e, if_neg e]; omega
theorem ps_RcP {T n f : Nat} {rc : Nat → Nat} (hT : ps_T34 T) (hn : n + 1 + T ≤ 10) (hf : f < T) (h : ps_Rc T (n + 1) f (ps_pa T (n + 1) (T - 2)) rc) : ps_Rc T n ((f + T - 1) % T) 0 rc := by
  intro t ht
  rw [h t ht]
  rcases hT with e | e
  · subst e
    have p1 : ps_pa 3 (n + 1) 1 = ps_pa 3 n 0 + ps_pa 3 n 2 := rfl
    have p0 : ps_pa 3 (n + 1) 0 = ps_pa 3 n 0 + ps_pa 3 n 1 := rfl
    have z : ps_pa 3 n 2 = 0 := ps_pa_0 (Or.inl rfl) (by omega)
    have c : f = 0 ∨ f = 1 ∨ f = 2 := by omega
    have d : t = 0 ∨ t = 1 ∨ t = 2 := by omega
    rcases c with c | c | c <;> rcases d with d | d | d <;> subst c <;> subst d <;> simp [p0, p1, z] <;> omega
  · subst e
    have p2 : ps_pa 4 (n + 1) 2 = ps_pa 4 n 0 + ps_pa 4 n 3 := rfl
    have p1 : ps_pa 4 (n + 1) 1 = ps_pa 4 n 0 + ps_pa 4 n 2 := rfl
    have p0 : ps_pa 4 (n + 1) 0 = ps_pa 4 n 0 + ps_pa 4 n 1 := rfl
    have z : ps_pa 4 n 3 = 0 := ps_pa_0 (Or.inr rfl) (by omega)
    have c : f = 0 ∨ f = 1 ∨ f = 2 ∨ f = 3 := by omega
    have d : t = 0 ∨ t = 1 ∨ t = 2 ∨ t = 3 := by omega
    rcases c with c | c | c | c <;> rcases d with d | d | d | d <;> subst c <;> subst d <;> simp [p0, p1, p2, z] <;> omega
end
section
/-! the component's walks while it feeds. Wants pk_us pk_un pk_sub pk_m1 pk_mul pk_div pk_rem ahead of it. -/
theorem ps_if {c d A B : Prop} (e : c ↔ d) (f : d → A) (g : ¬ d → B) : (c → A) ∧ (¬ c → B) :=
  ⟨fun h => f (e.1 h), fun h => g (fun z => h (e.2 z))⟩
theorem ps_p1 {r : Nat} (h : 1 ≤ r) : nI r - 1 = nI (r - 1) := pk_sub (b := 1) h
theorem ps_keq (x y : Int32) : x = y ↔ x.toInt = y.toInt := Int32.toInt_inj.symm
theorem ps_kle (x y : Int32) : x ≤ y ↔ x.toInt ≤ y.toInt := Int32.le_iff_toInt_le
theorem ps_klt (x y : Int32) : x < y ↔ x.toInt < y.toInt := Int32.lt_iff_toInt_lt
theorem px_sb {tT wS rL sg rC gR hd lW lv oN ur cR : Int32} {K V N nx ws fo pr rs fs rc mh : Nat → Int32} {post : Int32 → Prop} {a b : Nat} (ha : a < 64) (hb : b < 64) (h1 : ps_L K a b → post 1) (h0 : ¬ ps_L K a b → post 0) : wpX_sortsBefore post (tT, wS, rL, sg, rC, gR, hd, lW, lv, oN, ur, cR, K, V, N, nx, ws, fo, pr, rs, fs, rc, mh) (nI a) (nI b) := by
  have ea : (nI a).toNatClampNeg = a := nI_clamp (by omega)
  have eb : (nI b).toNatClampNeg = b := nI_clamp (by omega)
  have ia : vp_in (nI a) 64 := vp_in_nI ha (by decide)
  have ib : vp_in (nI b) 64 := vp_in_nI hb (by decide)
  refine And.intro ia (And.intro ib (ps_if (d := (K a).toInt = (K b).toInt) (by rw [ea, eb]; exact ps_keq _ _) (fun e => ?_) (fun e => ?_)))
  · refine ps_if (d := b ≤ a) (nI_leI (by omega) (by omega)) (fun q => h0 ?_) (fun q => h1 ?_)
    · unfold ps_L; omega
    · unfold ps_L; omega
  · refine And.intro ia (And.intro ib (ps_if (d := (K b).toInt ≤ (K a).toInt) (by rw [ea, eb]; exact ps_kle _ _) (fun q => h0 ?_) (fun q => h1 ?_)))
    · unfold ps_L; omega
    · unfold ps_L; omega
theorem px_lb {tT wS rL sg rC gR hd lW lv oN ur cR : Int32} {K V N nx ws fo pr rs fs rc mh : Nat → Int32} {post : Int32 → Prop} {a b : Nat} {rn : Nat → Nat} (ha : a < 64) (hb : b < 64) (na : N a = nI (rn a)) (nb : N b = nI (rn b)) (ra : rn a < 1000) (rb : rn b < 1000)
    (h1 : ps_R rn (ps_L K) a b → post 1) (h0 : ¬ ps_R rn (ps_L K) a b → post 0) : wpX_leavesBefore post (tT, wS, rL, sg, rC, gR, hd, lW, lv, oN, ur, cR, K, V, N, nx, ws, fo, pr, rs, fs, rc, mh) (nI a) (nI b) := by
  have ea : (nI a).toNatClampNeg = a := nI_clamp (by omega)
  have eb : (nI b).toNatClampNeg = b := nI_clamp (by omega)
  have ia : vp_in (nI a) 64 := vp_in_nI ha (by decide)
  have ib : vp_in (nI b) 64 := vp_in_nI hb (by decide)
  refine And.intro ia (And.intro ib (ps_if (d := rn a = rn b) (by rw [ea, eb, na, nb]; exact nI_eq (by omega) (by omega)) (fun e => ?_) (fun e => ?_)))
  · refine px_sb ha hb (fun q => ⟨rfl, h1 (Or.inr ⟨e, q⟩)⟩) (fun q => ⟨rfl, h0 (fun z => ?_)⟩)
    rcases z with z | z
    · omega
    · exact q z.2
  · refine And.intro ia (And.intro ib (ps_if (d := rn b ≤ rn a) (by rw [ea, eb, na, nb]; exact nI_leI (by omega) (by omega)) (fun q => h0 (fun z => ?_)) (fun q => h1 (Or.inl (by omega)))))
    rcases z with z | z
    · omega
    · exact e z.1
/-- what frontCell needs of the cells -/
def px_Cl (h : Nat) (w rn : Nat → Nat) (N ws : Nat → Int32) : Prop :=
  h ≤ 8 ∧ (∀ j, j < h → ws j = nI (w j) ∧ w j < 64 ∧ N (w j) = nI (rn (w j)) ∧ rn (w j) < 1000) ∧ (∀ i j, i < h → j < h → w i = w j → i = j)
theorem px_fcl {tT wS rL sg rC gR lW lv oN ur cR : Int32} {K V N nx ws fo pr rs fs rc mh : Nat → Int32} {post : Int32 → Prop} {h : Nat} {w rn : Nat → Nat} (C : px_Cl h w rn N ws)
    (hp : ∀ b, b < h → (∀ j, j < h → j = b ∨ ps_R rn (ps_L K) (w b) (w j)) → post (nI b)) :
    ∀ n i b, i ≤ h → h - i < n → b < h → (∀ j, j < i → j = b ∨ ps_R rn (ps_L K) (w b) (w j)) → wX_frontCell_4 post tT wS rL sg rC gR (nI h) lW lv oN ur cR K V N nx ws fo pr rs fs rc mh n (nI b) (nI i) := by
  obtain ⟨h8, hw, inj⟩ := C
  have hT := ps_R_T (rn := rn) (ps_L_T K)
  intro n
  induction n with
  | zero => intro i b _ h1; omega
  | succ n ih =>
    intro i b hi hn hb hI
    refine ps_if (d := h ≤ i) (nI_leI (by omega) (by omega)) (fun q => hp b hb (fun j hj => hI j (by omega))) (fun q => ?_)
    have il : i < h := by omega
    have wi := hw i il
    have wb := hw b hb
    refine And.intro (vp_in_nI (by omega) (by decide)) (And.intro (vp_in_nI (by omega) (by decide)) ?_)
    have e1 : ws (nI i).toNatClampNeg = nI (w i) := by rw [nI_clamp (by omega)]; exact wi.1
    have e2 : ws (nI b).toNatClampNeg = nI (w b) := by rw [nI_clamp (by omega)]; exact wb.1
    rw [e1, e2]
    refine px_lb (rn := rn) wi.2.1 wb.2.1 wi.2.2.1 wb.2.2.1 wi.2.2.2 wb.2.2.2 (fun z => ?_) (fun z => ?_)
    · refine br_f (by decide) (nm_r (nI_1 i) (ih (i + 1) i (by omega) (by omega) il (fun j hj => ?_)))
      by_cases ji : j = i
      · exact Or.inl ji
      · rcases hI j (by omega) with s | s
        · rw [s]; exact Or.inr z
        · exact Or.inr (hT.2.1 _ _ _ z s)
    · refine br_t rfl (nm_r (nI_1 i) (ih (i + 1) b (by omega) (by omega) hb (fun j hj => ?_)))
      by_cases ji : j = i
      · by_cases bi : b = i
        · exact Or.inl (by omega)
        · right
          rw [ji]
          rcases hT.2.2 (w i) (w b) (fun s => bi (inj i b il hb s).symm) with s | s
          · exact absurd s z
          · exact s
      · exact hI j (by omega)
theorem px_fc {tT wS rL sg rC gR lW lv oN ur cR : Int32} {K V N nx ws fo pr rs fs rc mh : Nat → Int32} {post : Int32 → Prop} {h : Nat} {w rn : Nat → Nat} (C : px_Cl h w rn N ws) (h1 : 1 ≤ h)
    (hp : ∀ b, b < h → (∀ j, j < h → j = b ∨ ps_R rn (ps_L K) (w b) (w j)) → post (nI b)) : wpX_frontCell post (tT, wS, rL, sg, rC, gR, nI h, lW, lv, oN, ur, cR, K, V, N, nx, ws, fo, pr, rs, fs, rc, mh) :=
  Exists.intro (h + 1) (px_fcl C hp (h + 1) 1 0 h1 (by omega) (by omega) (fun j hj => Or.inl (by omega)))
theorem px_w50 {tT wS rL sg rC gR hd lW lv oN ur cR : Int32} {K V N nx ws fo pr rs fs rc mh : Nat → Int32} {post : St2 → Prop} {f : Nat} (hf : f < 64) (hp : post (tT, wS, rL, sg, rC, gR, hd, nI f, lv, oN, ur, cR, K, V, N, upd nx f (-1), ws, fo, pr, rs, fs, rc, mh)) : wX_writeOut_50 post (nI f) tT wS rL sg rC gR hd lW lv oN ur cR K V N nx ws fo pr rs fs rc mh :=
  And.intro (vp_in_nI hf (by decide)) (nm_r (e' := upd nx f (-1)) (by rw [nI_clamp (by omega)]) hp)
theorem px_w41 {tT wS rL sg rC gR hd lW lv oN ur cR : Int32} {K V N nx ws fo pr rs fs rc mh : Nat → Int32} {post : St2 → Prop} {f r : Nat} (hf : f < 64) (h1 : 1 ≤ r) (hr : r ≤ 64) (hp : post (tT, wS, rL, sg, rC, gR, hd, nI f, lv, oN, ur, cR, K, V, N, upd nx f (-1), ws, upd fo (r - 1) (nI f), pr, rs, fs, rc, mh)) : wX_writeOut_41 post (nI f) (nI r) tT wS rL sg rC gR hd lW lv oN ur cR K V N nx ws fo pr rs fs rc mh := by
  have e1 := ps_p1 h1
  refine And.intro (by rw [e1]; exact vp_in_nI (by omega) (by decide)) (nm_r (e' := upd fo (r - 1) (nI f)) (by rw [e1, nI_clamp (by omega)]) ?_)
  exact px_w50 hf hp
theorem px_wo {tT wS rL sg rC gR hd lW lv oN ur cR : Int32} {K V N nx ws fo pr rs fs rc mh : Nat → Int32} {post : St2 → Prop} {c f : Nat} {rn : Nat → Nat} {wr : Nat → Prop} (hc : c ≤ 64) (F : ps_Feed c (ps_L K) rn wr nx fo lW)
    (hN : ∀ x, x < c → N x = nI (rn x) ∧ 1 ≤ rn x ∧ rn x ≤ 64) (hf : f < c) (hw : ¬ wr f) (hm : ∀ y, y < c → ¬ wr y → y = f ∨ ps_R rn (ps_L K) f y)
    (hp : ∀ nx' fo' : Nat → Int32, ps_Feed c (ps_L K) rn (fun x => wr x ∨ x = f) nx' fo' (nI f) → post (tT, wS, rL, sg, rC, gR, hd, nI f, lv, oN, ur, cR, K, V, N, nx', ws, fo', pr, rs, fs, rc, mh)) : wpX_writeOut post (tT, wS, rL, sg, rC, gR, hd, lW, lv, oN, ur, cR, K, V, N, nx, ws, fo, pr, rs, fs, rc, mh) (nI f) := by
  have cf : (nI f).toNatClampNeg = f := nI_clamp (by omega)
  have nf := hN f hf
  have hT := ps_L_T K
  refine And.intro (vp_in_nI (by omega) (by decide)) (nm_r (e' := nI (rn f)) (by rw [cf]; exact nf.1) ?_)
  by_cases e : lW = -1
  · exact br_t e (px_w41 (by omega) nf.2.1 nf.2.2 (hp _ _ (ps_wo0 hT F e (by omega) hf hm).2))
  · refine br_f e ?_
    have F2 := F.2
    rcases F2 with ⟨e', _⟩ | ⟨l, el, hl, _⟩
    · exact absurd e' e
    · have lc := F.1 l hl
      subst el
      have cl : (nI l).toNatClampNeg = l := nI_clamp (by omega)
      have nl := hN l lc
      have il : vp_in (nI l) 64 := vp_in_nI (by omega) (by decide)
      refine And.intro il (ps_if (d := rn l = rn f) (by rw [cl, nl.1]; exact nI_eq (by omega) (by omega)) (fun r => ?_) (fun r => ?_))
      · refine And.intro il (nm_r (e' := upd nx l (nI f)) (by rw [cl]) ?_)
        exact px_w50 (by omega) (hp _ _ (ps_woB hT F (by omega) (by omega) hf hw hm r))
      · exact px_w41 (by omega) nf.2.1 nf.2.2 (hp _ _ (ps_woA hT F (by omega) (by omega) hf hw hm r).2)
end
section
/-! put. -/
theorem ps_LK {K : Nat → Int32} {c : Nat} {k : Int32} : ∀ x y, x < c → y < c → (ps_L (upd K c k) x y ↔ ps_L K x y) := by
  intro x y hx hy
  unfold ps_L
  rw [pk_un (by omega), pk_un (by omega)]
theorem px_97 {tT wS rL sg rC hd lW lv oN ur cR : Int32} {K V N nx ws fo pr rs fs rc mh : Nat → Int32} {post : Int32 → St2 → Prop} {c r R : Nat} (hc : c < 64) (eN : N c = nI r) (hr : r < 1000) (hR : R < 1000)
    (h0 : r ≤ R → post 0 (tT, wS, rL, sg, rC, nI R, hd, lW, lv, oN, ur, cR, K, V, N, nx, ws, fo, pr, rs, fs, rc, mh)) (h1 : R < r → post 0 (tT, wS, rL, sg, rC, nI r, hd, lW, lv, oN, ur, cR, K, V, N, nx, ws, fo, pr, rs, fs, rc, mh)) : wX_put_97 post (nI c) tT wS rL sg rC (nI R) hd lW lv oN ur cR K V N nx ws fo pr rs fs rc mh := by
  have ec : N (nI c).toNatClampNeg = nI r := by rw [nI_clamp (by omega)]; exact eN
  refine And.intro (vp_in_nI hc (by decide)) (ps_if (d := r ≤ R) (by rw [ec]; exact nI_leI (by omega) (by omega)) h0 (fun q => ?_))
  exact And.intro (vp_in_nI hc (by decide)) (nm_r ec (h1 (by omega)))
theorem px_putF {tT lW lv oN ur cR : Int32} {K V N nx ws fo pr rs fs rc mh : Nat → Int32} {post : Int32 → St2 → Prop} {A W c R h : Nat} {k v : Int32} (hA : A ≤ 64) (hW : W ≤ 8) (hc : c < A) (hh : h < W) (hR : R < 1000)
    (h0 : 1 ≤ R → post 0 (tT, nI W, nI A, 0, nI (c + 1), nI R, nI (h + 1), lW, lv, oN, ur, cR, upd K c k, upd V c v, upd N c 1, nx, upd ws h (nI c), fo, pr, rs, fs, rc, mh))
    (h1 : R < 1 → post 0 (tT, nI W, nI A, 0, nI (c + 1), nI 1, nI (h + 1), lW, lv, oN, ur, cR, upd K c k, upd V c v, upd N c 1, nx, upd ws h (nI c), fo, pr, rs, fs, rc, mh)) :
    wpX_put post (tT, nI W, nI A, 0, nI c, nI R, nI h, lW, lv, oN, ur, cR, K, V, N, nx, ws, fo, pr, rs, fs, rc, mh) k v := by
  have ec : (nI c).toNatClampNeg = c := nI_clamp (by omega)
  have ic : vp_in (nI c) 64 := vp_in_nI (by omega) (by decide)
  refine br_t rfl (ps_if (d := c < A) (nI_ltI (by omega) (by omega)) (fun _ => ?_) (fun q => absurd hc q))
  refine And.intro ic (nm_r (e' := upd K c k) (by rw [ec]) (And.intro ic (nm_r (e' := upd V c v) (by rw [ec]) (nm_r (nI_1 c) ?_))))
  refine ps_if (d := W ≤ h) (nI_leI (by omega) (by omega)) (fun q => absurd q (by omega)) (fun _ => ?_)
  refine And.intro ic (nm_r (e' := upd N c 1) (by rw [ec]) (And.intro (vp_in_nI (by omega) (by decide)) (nm_r (e' := upd ws h (nI c)) (by rw [nI_clamp (by omega)]) (nm_r (nI_1 h) ?_))))
  exact px_97 (r := 1) (by omega) pk_us (by omega) hR h0 h1
theorem px_61 {tT wS rL sg rC gR hd lW lv oN ur cR : Int32} {K V N nx ws fo pr rs fs rc mh : Nat → Int32} {post : St2 → Prop} {c b f r : Nat} {rn : Nat → Nat} {wr : Nat → Prop} (hc : c < 64) (hb : b < 8) (F : ps_Feed c (ps_L K) rn wr nx fo lW)
    (hN : ∀ x, x < c → N x = nI (rn x) ∧ 1 ≤ rn x ∧ rn x ≤ 64) (hf : f < c) (hw : ¬ wr f) (hm : ∀ y, y < c → ¬ wr y → y = f ∨ ps_R rn (ps_L K) f y)
    (hp : ∀ nx' fo' : Nat → Int32, ps_Feed c (ps_L K) (ps_un rn c r) (fun x => wr x ∨ x = f) nx' fo' (nI f) → post (tT, wS, rL, sg, rC, gR, hd, nI f, lv, oN, ur, cR, K, V, upd N c (nI r), nx', upd ws b (nI c), fo', pr, rs, fs, rc, mh)) :
    wX_replaceFront_61 post (nI c) (nI b) (nI f) (nI r) (nI c) tT wS rL sg rC gR hd lW lv oN ur cR K V N nx ws fo pr rs fs rc mh := by
  refine And.intro (vp_in_nI hc (by decide)) (nm_r (e' := upd N c (nI r)) (by rw [nI_clamp (by omega)]) ?_)
  have er : ∀ x, x < c → ps_un rn c r x = rn x := fun x hx => ps_uo (by omega)
  have F' := ps_FeedC (L' := ps_L K) (rn' := ps_un rn c r) (fun _ _ _ _ => Iff.rfl) er F
  refine px_wo (rn := ps_un rn c r) (wr := wr) (by omega) F' (fun x hx => ?_) hf hw (fun y hy hw' => ?_) (fun nx' fo' F'' => ?_)
  · rw [er x hx, pk_un (by omega)]; exact hN x hx
  · rcases hm y hy hw' with q | q
    · exact Or.inl q
    · right
      rcases q with q | q
      · left; rw [er f hf, er y hy]; exact q
      · right; rw [er f hf, er y hy]; exact q
  · exact And.intro (vp_in_nI hb (by decide)) (nm_r (e' := upd ws b (nI c)) (by rw [nI_clamp (by omega)]) (hp nx' fo' F''))
theorem px_rf {tT wS rL sg rC gR lW lv oN ur cR : Int32} {K V N nx ws fo pr rs fs rc mh : Nat → Int32} {post : St2 → Prop} {c h : Nat} {w rn : Nat → Nat} {wr : Nat → Prop} (hc : c < 64) (F : ps_Feed c (ps_L K) rn wr nx fo lW)
    (hN : ∀ x, x < c → N x = nI (rn x) ∧ 1 ≤ rn x ∧ rn x ≤ 64) (h1 : 1 ≤ h) (h8 : h ≤ 8) (Wk : ps_Ws c h w wr) (hw : ∀ j, j < h → ws j = nI (w j))
    (hp : ∀ b r, b < h → (∀ y, y < c → ¬ wr y → y = w b ∨ ps_R rn (ps_L K) (w b) y) → ((K c).toInt < (K (w b)).toInt → r = rn (w b) + 1) → (¬ (K c).toInt < (K (w b)).toInt → r = rn (w b)) →
      ∀ nx' fo' : Nat → Int32, ps_Feed c (ps_L K) (ps_un rn c r) (fun x => wr x ∨ x = w b) nx' fo' (nI (w b)) → post (tT, wS, rL, sg, rC, gR, nI h, nI (w b), lv, oN, ur, cR, K, V, upd N c (nI r), nx', upd ws b (nI c), fo', pr, rs, fs, rc, mh)) :
    wpX_replaceFront post (tT, wS, rL, sg, rC, gR, nI h, lW, lv, oN, ur, cR, K, V, N, nx, ws, fo, pr, rs, fs, rc, mh) (nI c) := by
  have C : px_Cl h w rn N ws := by
    refine ⟨h8, fun j hj => ?_, Wk.2.1⟩
    have a := Wk.1 j hj
    have n := hN _ a.1
    exact ⟨hw j hj, by omega, n.1, by omega⟩
  unfold wpX_replaceFront
  refine px_fc C h1 (fun b hb hmin => ?_)
  have wb := Wk.1 b hb
  have nb := hN _ wb.1
  have ec : (nI c).toNatClampNeg = c := nI_clamp (by omega)
  have ef : (nI (w b)).toNatClampNeg = w b := nI_clamp (by omega)
  have iff : vp_in (nI (w b)) 64 := vp_in_nI (by omega) (by decide)
  have hm : ∀ y, y < c → ¬ wr y → y = w b ∨ ps_R rn (ps_L K) (w b) y := by
    intro y hy hwy
    obtain ⟨j, hj, ej⟩ := Wk.2.2 y hy hwy
    rcases hmin j hj with q | q
    · left; rw [← ej, q]
    · right; rw [← ej]; exact q
  refine And.intro (vp_in_nI (by omega) (by decide)) (nm_r (e' := nI (w b)) (by rw [nI_clamp (by omega)]; exact hw b hb) (And.intro (vp_in_nI hc (by decide)) (And.intro iff (ps_if (d := (K c).toInt < (K (w b)).toInt) (by rw [ec, ef]; exact ps_klt _ _) (fun q => ?_) (fun q => ?_)))))
  · refine br_t rfl (And.intro iff ?_)
    have er : N (nI (w b)).toNatClampNeg + 1 = nI (rn (w b) + 1) := by rw [ef, nb.1, nI_1]
    rw [er]
    exact px_61 hc (by omega) F hN wb.1 wb.2 hm (hp b (rn (w b) + 1) hb hm (fun _ => rfl) (fun z => absurd q z))
  · refine br_f (by decide) (And.intro iff ?_)
    have er : N (nI (w b)).toNatClampNeg = nI (rn (w b)) := by rw [ef, nb.1]
    rw [er]
    exact px_61 hc (by omega) F hN wb.1 wb.2 hm (hp b (rn (w b)) hb hm (fun z => absurd z q) (fun _ => rfl))
theorem px_putW {tT lW lv oN ur cR : Int32} {K V N nx ws fo pr rs fs rc mh : Nat → Int32} {post : Int32 → St2 → Prop} {A W c R h : Nat} {k v : Int32} {w rn : Nat → Nat} {wr : Nat → Prop} (hA : A ≤ 64) (hc : c < A) (hh : W ≤ h) (h1 : 1 ≤ h) (h8 : h ≤ 8) (hR : R ≤ 64)
    (F : ps_Feed c (ps_L K) rn wr nx fo lW) (hN : ∀ x, x < c → N x = nI (rn x) ∧ 1 ≤ rn x ∧ rn x ≤ 64) (Wk : ps_Ws c h w wr) (hw : ∀ j, j < h → ws j = nI (w j))
    (hp : ∀ b r R', b < h → (∀ y, y < c → ¬ wr y → y = w b ∨ ps_R rn (ps_L K) (w b) y) → (k.toInt < (K (w b)).toInt → r = rn (w b) + 1) → (¬ k.toInt < (K (w b)).toInt → r = rn (w b)) → (r ≤ R → R' = R) → (R < r → R' = r) →
      ∀ nx' fo' : Nat → Int32, ps_Feed c (ps_L (upd K c k)) (ps_un rn c r) (fun x => wr x ∨ x = w b) nx' fo' (nI (w b)) →
      post 0 (tT, nI W, nI A, 0, nI (c + 1), nI R', nI h, nI (w b), lv, oN, ur, cR, upd K c k, upd V c v, upd N c (nI r), nx', upd ws b (nI c), fo', pr, rs, fs, rc, mh)) :
    wpX_put post (tT, nI W, nI A, 0, nI c, nI R, nI h, lW, lv, oN, ur, cR, K, V, N, nx, ws, fo, pr, rs, fs, rc, mh) k v := by
  have ec : (nI c).toNatClampNeg = c := nI_clamp (by omega)
  have ic : vp_in (nI c) 64 := vp_in_nI (by omega) (by decide)
  have F' := ps_FeedC (L' := ps_L (upd K c k)) (rn' := rn) ps_LK (fun _ _ => rfl) F
  refine br_t rfl (ps_if (d := c < A) (nI_ltI (by omega) (by omega)) (fun _ => ?_) (fun q => absurd hc q))
  refine And.intro ic (nm_r (e' := upd K c k) (by rw [ec]) (And.intro ic (nm_r (e' := upd V c v) (by rw [ec]) (nm_r (nI_1 c) ?_))))
  refine ps_if (d := W ≤ h) (nI_leI (by omega) (by omega)) (fun _ => ?_) (fun q => absurd hh q)
  refine px_rf (w := w) (rn := rn) (wr := wr) (by omega) F' hN h1 h8 Wk hw (fun b r hb hm r1 r2 nx' fo' F'' => ?_)
  have wb := Wk.1 b hb
  have nb := hN _ wb.1
  rw [pk_us, pk_un (by omega)] at r1 r2
  have hm' : ∀ y, y < c → ¬ wr y → y = w b ∨ ps_R rn (ps_L K) (w b) y := by
    intro y hy hwy
    rcases hm y hy hwy with q | q
    · exact Or.inl q
    · right
      rcases q with q | q
      · exact Or.inl q
      · exact Or.inr ⟨q.1, (ps_LK _ _ wb.1 hy).1 q.2⟩
  have hr : r < 1000 := by
    by_cases z : k.toInt < (K (w b)).toInt
    · have := r1 z; omega
    · have := r2 z; omega
  refine px_97 (r := r) (by omega) pk_us hr (by omega) (fun q => ?_) (fun q => ?_)
  · exact hp b r R hb hm' r1 r2 (fun _ => rfl) (fun z => by omega) nx' fo' F''
  · exact hp b r r hb hm' r1 r2 (fun z => by omega) (fun _ => rfl) nx' fo' F''
/-! the reference's side -/
def ps_cn (a : Nat → Int32) : Nat → Nat
  | 0 => 0
  | n + 1 => ps_cn a n + if a n = 0 then 0 else 1
theorem ps_cn_s (a : Nat → Int32) (n : Nat) : ps_cn a (n + 1) = ps_cn a n + if a n = 0 then 0 else 1 := rfl
theorem ps_cn_c {a b : Nat → Int32} : ∀ n, (∀ x, x < n → a x = b x) → ps_cn a n = ps_cn b n := by
  intro n
  induction n with
  | zero => intro _; rfl
  | succ n ih =>
    intro h
    rw [ps_cn_s, ps_cn_s, ih (fun x hx => h x (by omega)), h n (by omega)]
theorem ps_cn_u {a : Nat → Int32} {s : Nat} (hs : ¬ a s = 0) : ∀ n, s < n → ps_cn (upd a s 0) n + 1 = ps_cn a n := by
  intro n
  induction n with
  | zero => intro h; omega
  | succ n ih =>
    intro h
    rw [ps_cn_s, ps_cn_s]
    by_cases e : s = n
    · subst e
      rw [pk_us, if_pos rfl, if_neg hs, ps_cn_c (a := upd a s 0) (b := a) s (fun x hx => pk_un (by omega))]
    · rw [pk_un (by omega)]
      have := ih (by omega)
      omega
theorem ps_cn_le (a : Nat → Int32) : ∀ n, ps_cn a n ≤ n := by
  intro n
  induction n with
  | zero => exact Nat.le_refl 0
  | succ n ih =>
    rw [ps_cn_s]
    split <;> omega
theorem ps_vb0 : vp_nar .boolean 0 = 0 := by decide
theorem ps_vb1 : vp_nar .boolean 1 = 1 := by decide
theorem ps_n1 : (-1 : Int32) < 0 := by decide
/-- one more in the set of those below i -/
theorem ps_mi_s {L : Nat → Nat → Prop} {P : Nat → Prop} {x : Int32} {i : Nat} (h : ps_mi L (fun y => y < i ∧ P y) x) (n : ¬ P i) : ps_mi L (fun y => y < i + 1 ∧ P y) x := by
  refine ps_mi_c ?_ h
  intro y
  constructor
  · intro a; exact ⟨by have := a.1; omega, a.2⟩
  · intro a
    refine ⟨?_, a.2⟩
    by_cases e : y = i
    · rw [e] at a; exact absurd a.2 n
    · have := a.1; omega
theorem ps_mi_k {L : Nat → Nat → Prop} {P : Nat → Prop} {b i : Nat} (p : P b) (hb : b < i) (m : ∀ y, y < i ∧ P y → y = b ∨ L b y) (h : L b i) : ps_mi L (fun y => y < i + 1 ∧ P y) (nI b) := by
  refine ps_mi_1 b ⟨by omega, p⟩ ?_
  intro y hy
  by_cases e : y = i
  · rw [e]; exact Or.inr h
  · exact m y ⟨by have := hy.1; omega, hy.2⟩
theorem ps_mi_n {L : Nat → Nat → Prop} {P : Nat → Prop} {i : Nat} (p : P i) (m : ∀ y, y < i → P y → L i y) : ps_mi L (fun y => y < i + 1 ∧ P y) (nI i) := by
  refine ps_mi_1 i ⟨by omega, p⟩ ?_
  intro y hy
  by_cases e : y = i
  · exact Or.inl e
  · exact Or.inr (m y (by have := hy.1; omega) hy.2)
end
section
/-! the relation. -/
def ps_Com (T W A c R : Nat) (rn : Nat → Nat) (N : Nat → Int32) : Prop :=
  ps_T34 T ∧ 2 ≤ W ∧ W ≤ 8 ∧ 8 ≤ A ∧ A ≤ 64 ∧ c ≤ A ∧ (∀ x, x < c → N x = nI (rn x)) ∧ ps_Rn c R rn
def ps_Fd (W c h : Nat) (rn w : Nat → Nat) (wr : Nat → Prop) (K nx ws fo ins : Nat → Int32) (lW : Int32) : Prop :=
  h ≤ W ∧ (h < W → h = c ∧ lW = -1) ∧ ps_Feed c (ps_L K) rn wr nx fo lW ∧ ps_Ws c h w wr ∧ (∀ j, j < h → ws j = nI (w j)) ∧ (∀ x, x < c → (ins x = 0 ↔ wr x)) ∧ ps_cn ins c = h
def ps_Mg (T c n f d e : Nat) (fsN rcN own : Nat → Nat) (K nx rs fs rc hl : Nat → Int32) : Prop :=
  1 ≤ n ∧ n + T ≤ 10 ∧ f < T ∧ (ps_pa T n (T - 2) = d + e ∧ 1 ≤ e) ∧ ps_Rc T n f d rcN ∧ (∀ t, T ≤ t → t < 4 → rcN t = 0) ∧ (∀ t, t < 4 → fs t = nI (fsN t) ∧ fsN t < 32 ∧ rc t = nI (rcN t)) ∧ (∀ t, t < T → hl t = nI (rcN t)) ∧ ps_Own c (ps_L K) own (ps_live fsN rcN) nx rs
def ps_aft (K : Nat → Int32) (c : Nat) (la : Int32) (y : Nat) : Prop := y < c ∧ (la = -1 ∨ ∃ l, l < c ∧ la = nI l ∧ ps_L K l y)
def ps_So (T c f p : Nat) (la ur : Int32) (K nx rs fs rc hl : Nat → Int32) : Prop :=
  f < T ∧ p < 32 ∧ fs f = nI p ∧ (∀ t, t < T → rc t = hl t) ∧ ps_mi (ps_L K) (fun x => x < c) (rs (f * 32 + p)) ∧ (∀ x, x < c → ps_mi (ps_L K) (fun y => y < c ∧ ps_L K x y) (nx x)) ∧ (la = -1 ∨ ∃ l, l < c ∧ la = nI l) ∧ ps_mi (ps_L K) (ps_aft K c la) ur
/-- what every stage has: the counts, the fields, what is inside -/
theorem ps_T4 {T : Nat} (h : ps_T34 T) : 3 ≤ T ∧ T ≤ 4 := by
  rcases h with e | e <;> omega
theorem ps_R32 {c R : Nat} {rn : Nat → Nat} (h : ps_Rn c R rn) (hc : c ≤ 64) : R ≤ 32 := by
  have := h.2.2.2.1
  omega
theorem px_clear {tT wS rL sg rC gR hd lW lv oN ur cR : Int32} {K V N nx ws fo pr rs fs rc mh : Nat → Int32} {post : St2 → Prop} (hp : post (tT, wS, rL, 0, 0, 0, 0, -1, -1, -1, -1, -1, K, V, N, nx, ws, fo, pr, rs, fs, rc, mh)) : wpX_clear post (tT, wS, rL, sg, rC, gR, hd, lW, lv, oN, ur, cR, K, V, N, nx, ws, fo, pr, rs, fs, rc, mh) := hp
end
section
/-- field: one answer -/
def ps_fa (C : Int32) (K V N : Nat → Int32) (p q : Int32) : Int32 :=
  if q < 0 then -1 else if ¬ q ≤ 3 then -1 else if p < 0 ∨ ¬ p < C then (if q = 3 then -1 else 0)
  else if q = 0 then K p.toNatClampNeg else if q = 1 then V p.toNatClampNeg else if q = 2 then N p.toNatClampNeg else p
theorem px_fi {tT wS rL sg gR hd lW lv oN ur cR : Int32} {K V N nx ws fo pr rs fs rc mh : Nat → Int32} {post : Int32 → Prop} {c : Nat} {p q : Int32} (hc : c ≤ 64) (hp : post (ps_fa (nI c) K V N p q)) : wpX_field post (tT, wS, rL, sg, nI c, gR, hd, lW, lv, oN, ur, cR, K, V, N, nx, ws, fo, pr, rs, fs, rc, mh) p q := by
  unfold ps_fa at hp
  by_cases q0 : q < 0
  · rw [if_pos q0] at hp; exact br_t q0 hp
  rw [if_neg q0] at hp
  refine br_f q0 ?_
  by_cases q3 : q ≤ 3
  · rw [if_neg (not_not_intro q3)] at hp
    refine br_t q3 ?_
    by_cases p0 : p < 0
    · rw [if_pos (Or.inl p0)] at hp
      refine br_t p0 ?_
      by_cases e3 : q = 3
      · rw [if_pos e3] at hp; exact br_t e3 hp
      · rw [if_neg e3] at hp; exact br_f e3 hp
    · refine br_f p0 ?_
      by_cases pc : p < nI c
      · rw [if_neg (fun z => z.elim p0 (fun y => y pc))] at hp
        obtain ⟨j, hj, ej⟩ := nI_of p0
        have jc : j < c := by rw [ej] at pc; exact (nI_ltI hj (by omega)).1 pc
        have ip : vp_in p 64 := by rw [ej]; exact vp_in_nI (by omega) (by decide)
        refine br_t pc (br_f q0 ?_)
        by_cases q2 : 2 < q
        · have n0 : ¬ q = 0 := fun z => by rw [z] at q2; exact absurd q2 (by decide)
          have n1 : ¬ q = 1 := fun z => by rw [z] at q2; exact absurd q2 (by decide)
          have n2 : ¬ q = 2 := fun z => by rw [z] at q2; exact absurd q2 (by decide)
          rw [if_neg n0, if_neg n1, if_neg n2] at hp
          exact br_t q2 hp
        · refine br_f q2 ?_
          by_cases n0 : q = 0
          · rw [if_pos n0] at hp; exact br_t n0 ⟨ip, hp⟩
          · rw [if_neg n0] at hp
            refine br_f n0 ?_
            by_cases n1 : q = 1
            · rw [if_pos n1] at hp; exact br_t n1 ⟨ip, hp⟩
            · rw [if_neg n1] at hp
              refine br_f n1 ?_
              by_cases n2 : q = 2
              · rw [if_pos n2] at hp; exact br_t n2 ⟨ip, hp⟩
              · exact br_f n2 trivial
      · rw [if_pos (Or.inr pc)] at hp
        refine br_f pc ?_
        by_cases e3 : q = 3
        · rw [if_pos e3] at hp; exact br_t e3 hp
        · rw [if_neg e3] at hp; exact br_f e3 hp
  · rw [if_pos q3] at hp; exact br_f q3 hp
theorem ps_hN {T W A c R : Nat} {rn : Nat → Nat} {N : Nat → Int32} (HC : ps_Com T W A c R rn N) : c ≤ 64 ∧ R ≤ 32 ∧ (∀ x, x < c → N x = nI (rn x) ∧ rn x < 1000) ∧ (∀ x, x < c → N x = nI (rn x) ∧ 1 ≤ rn x ∧ rn x ≤ 64) := by
  obtain ⟨_, _, _, _, a6, ca, hN, hR⟩ := HC
  have h32 := ps_R32 hR (by omega)
  refine ⟨by omega, h32, fun x hx => ⟨hN x hx, ?_⟩, fun x hx => ⟨hN x hx, ?_⟩⟩
  · have := hR.1 x hx; omega
  · have := hR.1 x hx; omega
end
section
/-! put keeps the relation. -/
/-- the feeding state after a put into a free cell -/
theorem ps_FdF {T W A c R R' h : Nat} {rn w : Nat → Nat} {wr : Nat → Prop} {K V N nx ws fo ins : Nat → Int32} {lW k : Int32} (HC : ps_Com T W A c R rn N) (HF : ps_Fd W c h rn w wr K nx ws fo ins lW) (hc : c < A) (hh : h < W)
    (r0 : 1 ≤ R → R' = R) (r1 : R < 1 → R' = 1) :
    ps_Com T W A (c + 1) R' (ps_un rn c 1) (upd N c 1) ∧ ps_Fd W (c + 1) (h + 1) (ps_un rn c 1) (ps_un w h c) wr (upd K c k) nx (upd ws h (nI c)) fo (upd ins c 1) lW := by
  obtain ⟨hT, w2, w8, a8, a6, ca, hN, hR⟩ := HC
  obtain ⟨hW, hl, F, Wk, hw, hi, hn⟩ := HF
  have er : ∀ x, x < c → ps_un rn c 1 x = rn x := fun x hx => ps_uo (by omega)
  obtain ⟨hhc, lw⟩ := hl hh
  refine ⟨⟨hT, w2, w8, a8, a6, by omega, ?_, ?_⟩, by omega, ?_, ?_, ?_, ?_, ?_, ?_⟩
  · intro x hx
    by_cases e : x = c
    · rw [e, pk_us, ps_us]; rfl
    · rw [pk_un e, ps_uo e]; exact hN x (by omega)
  · by_cases R0 : 1 ≤ R
    · rw [r0 R0]; exact ps_RnA hR er (by rw [ps_us]; omega) (by rw [ps_us]; exact R0)
    · have c0 : c = 0 := by
        by_cases c0 : c = 0
        · exact c0
        · obtain ⟨x, hx, ex⟩ := hR.2.2.1 (by omega)
          have := hR.1 x hx
          omega
      have e0 : R = 0 := by omega
      rw [r1 (by omega)]
      have q := ps_RnB hR er (by rw [ps_us, e0]) (Or.inl c0)
      rw [e0] at q
      exact q
  · intro _; exact ⟨by omega, lw⟩
  · refine ps_add (ps_FeedC ps_LK er F) (fun _ => ps_us) (fun l el _ => ?_)
    rw [lw] at el
    exact absurd el.symm (ps_ne (by have := F.1 l (by assumption); omega))
  · exact ps_WsA Wk F.1
  · intro j hj
    by_cases e : j = h
    · rw [e, pk_us, ps_us]
    · rw [pk_un e, ps_uo e]; exact hw j (by omega)
  · intro x hx
    by_cases e : x = c
    · rw [e, pk_us]
      constructor
      · intro z; exact absurd z (by decide)
      · intro z; have := F.1 c z; omega
    · rw [pk_un e]; exact hi x (by omega)
  · rw [ps_cn_s, pk_us, if_neg (by decide), ps_cn_c (a := upd ins c 1) (b := ins) c (fun x hx => pk_un (by omega)), hn]
/-- the feeding state after a put that replaces the front -/
theorem ps_FdW {T W A c R R' h b r : Nat} {rn w : Nat → Nat} {wr : Nat → Prop} {K V N nx nx' ws fo fo' ins : Nat → Int32} {lW k : Int32} (HC : ps_Com T W A c R rn N) (HF : ps_Fd W c h rn w wr K nx ws fo ins lW) (hc : c < A) (hh : W ≤ h)
    (hb : b < h) (hm : ∀ y, y < c → ¬ wr y → y = w b ∨ ps_R rn (ps_L K) (w b) y) (k1 : k.toInt < (K (w b)).toInt → r = rn (w b) + 1) (k2 : ¬ k.toInt < (K (w b)).toInt → r = rn (w b)) (r0 : r ≤ R → R' = R) (r1 : R < r → R' = r)
    (F' : ps_Feed c (ps_L (upd K c k)) (ps_un rn c r) (fun x => wr x ∨ x = w b) nx' fo' (nI (w b))) :
    ps_Com T W A (c + 1) R' (ps_un rn c r) (upd N c (nI r)) ∧ ps_Fd W (c + 1) h (ps_un rn c r) (ps_un w b c) (fun x => wr x ∨ x = w b) (upd K c k) nx' (upd ws b (nI c)) fo' (upd (upd ins (w b) 0) c 1) (nI (w b)) := by
  obtain ⟨hT, w2, w8, a8, a6, ca, hN, hR⟩ := HC
  obtain ⟨hW, hl, F, Wk, hw, hi, hn⟩ := HF
  have er : ∀ x, x < c → ps_un rn c r x = rn x := fun x hx => ps_uo (by omega)
  have wb := Wk.1 b hb
  have rb := hR.1 _ wb.1
  have rr : r = rn (w b) ∨ r = rn (w b) + 1 := by
    by_cases z : k.toInt < (K (w b)).toInt
    · exact Or.inr (k1 z)
    · exact Or.inl (k2 z)
  refine ⟨⟨hT, w2, w8, a8, a6, by omega, ?_, ?_⟩, hW, ?_, ?_, ?_, ?_, ?_, ?_⟩
  · intro x hx
    by_cases e : x = c
    · rw [e, pk_us, ps_us]
    · rw [pk_un e, ps_uo e]; exact hN x (by omega)
  · by_cases q : r ≤ R
    · rw [r0 q]; exact ps_RnA hR er (by rw [ps_us]; omega) (by rw [ps_us]; exact q)
    · have e : r = R + 1 := by omega
      have eb : rn (w b) = R := by omega
      rw [r1 (by omega), e]
      refine ps_RnB hR (by rw [← e]; exact er) ps_us (Or.inr ⟨w 0, w 1, (Wk.1 0 (by omega)).1, (Wk.1 1 (by omega)).1, ?_, ?_, ?_⟩)
      · intro z; have := Wk.2.1 0 1 (by omega) (by omega) z; omega
      · have a := Wk.1 0 (by omega)
        have a1 := hR.1 _ a.1
        rcases hm _ a.1 a.2 with z | z
        · rw [z]; exact eb
        · have := ps_R_le z; omega
      · have a := Wk.1 1 (by omega)
        have a1 := hR.1 _ a.1
        rcases hm _ a.1 a.2 with z | z
        · rw [z]; exact eb
        · have := ps_R_le z; omega
  · intro z; omega
  · refine ps_add F' (fun z => absurd z (ps_ne (by omega))) (fun l el hl' => ?_)
    have e : w b = l := by
      refine ps_inj (by omega) ?_ el
      rcases hl' with z | z
      · have := F.1 l z; omega
      · omega
    rw [← e, ps_us, er _ wb.1]
    refine ⟨?_, by omega⟩
    by_cases z : k.toInt < (K (w b)).toInt
    · left; rw [ps_us, er _ wb.1, k1 z]; omega
    · right
      refine ⟨by rw [ps_us, er _ wb.1, k2 z], ?_⟩
      unfold ps_L
      rw [pk_us, pk_un (by omega)]
      omega
  · exact ps_WsB Wk F.1 hb
  · intro j hj
    by_cases e : j = b
    · rw [e, pk_us, ps_us]
    · rw [pk_un e, ps_uo e]; exact hw j hj
  · intro x hx
    by_cases e : x = c
    · rw [e, pk_us]
      constructor
      · intro z; exact absurd z (by decide)
      · intro z
        rcases z with z | z
        · have := F.1 c z; omega
        · omega
    · rw [pk_un e]
      by_cases e2 : x = w b
      · rw [e2, pk_us]; exact ⟨fun _ => Or.inr rfl, fun _ => rfl⟩
      · rw [pk_un e2]
        constructor
        · intro z; exact Or.inl ((hi x (by omega)).1 z)
        · intro z
          rcases z with z | z
          · exact (hi x (by omega)).2 z
          · exact absurd z e2
  · rw [ps_cn_s, pk_us, if_neg (by decide), ps_cn_c (a := upd (upd ins (w b) 0) c 1) (b := upd ins (w b) 0) c (fun x hx => pk_un (by omega))]
    rw [ps_cn_u (fun z => wb.2 ((hi _ wb.1).1 z)) c wb.1]
    exact hn
end
section
/-! finish, the component's side. -/
theorem px_ewl {tT wS rL sg rC gR lv oN ur cR : Int32} {K V N pr rs fs rc mh : Nat → Int32} {post : St2 → Prop} {c : Nat} {rn : Nat → Nat} (hc : c ≤ 64) (hN : ∀ x, x < c → N x = nI (rn x) ∧ 1 ≤ rn x ∧ rn x ≤ 64)
    (hp : ∀ (lW : Int32) (nx ws fo : Nat → Int32) (wr : Nat → Prop), (∀ x, x < c → wr x) → ps_Feed c (ps_L K) rn wr nx fo lW → post (tT, wS, rL, sg, rC, gR, nI 0, lW, lv, oN, ur, cR, K, V, N, nx, ws, fo, pr, rs, fs, rc, mh)) :
    ∀ (h n i : Nat) (lW : Int32) (nx ws fo : Nat → Int32) (w : Nat → Nat) (wr : Nat → Prop), h + i ≤ 8 → h < n → ps_Feed c (ps_L K) rn wr nx fo lW → ps_Ws c h w wr → (∀ j, j < h → ws j = nI (w j)) → wX_emptyWorkspace_2 post n (nI i) tT wS rL sg rC gR (nI h) lW lv oN ur cR K V N nx ws fo pr rs fs rc mh := by
  intro h
  induction h with
  | zero =>
    intro n i lW nx ws fo w wr hi hn F Wk hw
    obtain ⟨n, rfl⟩ : ∃ m, n = m + 1 := ⟨n - 1, by omega⟩
    have al : ∀ x, x < c → wr x := by
      intro x hx
      by_cases q : wr x
      · exact q
      · obtain ⟨j, hj, _⟩ := Wk.2.2 x hx q
        omega
    have g := hp lW nx ws fo wr al F
    exact br_c (fun _ => g) (fun _ => br_c (fun _ => g) (fun z => absurd (nI_le (a := 0) (b := 0) (by omega) (by omega)) z))
  | succ h ih =>
    intro n i lW nx ws fo w wr hi hn F Wk hw
    obtain ⟨n, rfl⟩ : ∃ m, n = m + 1 := ⟨n - 1, by omega⟩
    have C : px_Cl (h + 1) w rn N ws := by
      refine ⟨by omega, fun j hj => ?_, Wk.2.1⟩
      have a := Wk.1 j hj
      have n := hN _ a.1
      exact ⟨hw j hj, by omega, n.1, by omega⟩
    refine br_f (nI_ge (b := 8) (by omega) (by decide)) (br_f (nI_nle (by omega) (by omega)) ?_)
    refine px_fc C (by omega) (fun b hb hmin => ?_)
    have wb := Wk.1 b hb
    have hm : ∀ y, y < c → ¬ wr y → y = w b ∨ ps_R rn (ps_L K) (w b) y := by
      intro y hy hwy
      obtain ⟨j, hj, ej⟩ := Wk.2.2 y hy hwy
      rcases hmin j hj with q | q
      · left; rw [← ej, q]
      · right; rw [← ej]; exact q
    have ib : vp_in (nI b) 8 := vp_in_nI (by omega) (by decide)
    refine And.intro ib ?_
    have eb : ws (nI b).toNatClampNeg = nI (w b) := by rw [nI_clamp (by omega)]; exact hw b hb
    rw [eb]
    refine px_wo hc F hN wb.1 wb.2 hm (fun nx' fo' F' => ?_)
    have eh : ws (nI h).toNatClampNeg = nI (w h) := by rw [nI_clamp (by omega)]; exact hw h (by omega)
    refine nm_r (nI_pred h) (And.intro (vp_in_nI (by omega) (by decide)) (And.intro ib (nm_r (e' := upd ws b (nI (w h))) (by rw [eh, nI_clamp (by omega)]) (nm_r (nI_1 i) ?_))))
    refine ih n (i + 1) (nI (w b)) nx' (upd ws b (nI (w h))) fo' (ps_un w b (w h)) (fun x => wr x ∨ x = w b) (by omega) (by omega) F' (ps_WsC Wk hb) (fun j hj => ?_)
    by_cases e : j = b
    · rw [e, pk_us, ps_us]
    · rw [pk_un e, ps_uo e]; exact hw j (by omega)
theorem px_ew {tT wS rL sg rC gR lW lv oN ur cR : Int32} {K V N nx ws fo pr rs fs rc mh : Nat → Int32} {post : St2 → Prop} {c h : Nat} {rn w : Nat → Nat} {wr : Nat → Prop} (hc : c ≤ 64) (h8 : h ≤ 8) (hN : ∀ x, x < c → N x = nI (rn x) ∧ 1 ≤ rn x ∧ rn x ≤ 64)
    (F : ps_Feed c (ps_L K) rn wr nx fo lW) (Wk : ps_Ws c h w wr) (hw : ∀ j, j < h → ws j = nI (w j))
    (hp : ∀ (lW : Int32) (nx ws fo : Nat → Int32) (wr : Nat → Prop), (∀ x, x < c → wr x) → ps_Feed c (ps_L K) rn wr nx fo lW → post (tT, wS, rL, sg, rC, gR, nI 0, lW, lv, oN, ur, cR, K, V, N, nx, ws, fo, pr, rs, fs, rc, mh)) : wpX_emptyWorkspace post (tT, wS, rL, sg, rC, gR, nI h, lW, lv, oN, ur, cR, K, V, N, nx, ws, fo, pr, rs, fs, rc, mh) :=
  Exists.intro (h + 1) (px_ewl hc hN hp h (h + 1) 0 lW nx ws fo w wr (by omega) (by omega) F Wk hw)
/-! the level -/
def ps_sm (T n : Nat) : Nat → Nat
  | 0 => 0
  | j + 1 => ps_sm T n j + ps_pa T n j
theorem ps_sm_tt {T n : Nat} (hT : ps_T34 T) : ps_sm T n (T - 1) = ps_tt T n := by
  rcases hT with e | e
  · subst e
    have z : ps_pa 3 n 2 = 0 := ps_pa_0 (Or.inl rfl) (by omega)
    show 0 + ps_pa 3 n 0 + ps_pa 3 n 1 = ps_pa 3 n 0 + ps_pa 3 n 1 + ps_pa 3 n 2
    omega
  · subst e
    show 0 + ps_pa 4 n 0 + ps_pa 4 n 1 + ps_pa 4 n 2 = ps_pa 4 n 0 + ps_pa 4 n 1 + ps_pa 4 n 2
    omega
theorem ps_pab {T n : Nat} (hT : ps_T34 T) (hn : n + T ≤ 10) (j : Nat) : ps_pa T n j ≤ 24 := by
  rcases hT with e | e
  · subst e
    have t := ps_tab3 n (by omega)
    by_cases a : j = 0
    · subst a; omega
    · by_cases b : j = 1
      · subst b; omega
      · rw [ps_pa_0 (Or.inl rfl) (by omega)]; omega
  · subst e
    have t := ps_tab4 n (by omega)
    by_cases a : j = 0
    · subst a; omega
    · by_cases b : j = 1
      · subst b; omega
      · by_cases d : j = 2
        · subst d; omega
        · rw [ps_pa_0 (Or.inr rfl) (by omega)]; omega
theorem ps_ttb {T n : Nat} (hT : ps_T34 T) (hn : n + T ≤ 10) : ps_tt T n ≤ 72 := by
  have a := ps_pab hT hn 0
  have b := ps_pab hT hn 1
  have c := ps_pab hT hn 2
  unfold ps_tt
  omega
theorem px_rpl {wS rL sg rC gR hd lW lv oN ur cR : Int32} {K V N nx ws fo rs fs rc mh : Nat → Int32} {post : St2 → Prop} {T n : Nat} (hT : ps_T34 T) (hp : ∀ pr : Nat → Int32, (∀ j, j < 4 → pr j = nI (ps_pa T (n + 1) j)) → post (nI T, wS, rL, sg, rC, gR, hd, lW, lv, oN, ur, cR, K, V, N, nx, ws, fo, pr, rs, fs, rc, mh)) :
    ∀ m i (pr : Nat → Int32), i + 1 ≤ T → T - 1 - i < m → (∀ j, j < i → pr j = nI (ps_pa T (n + 1) j)) → (∀ j, i ≤ j → j < 4 → pr j = nI (ps_pa T n j)) → wX_raisePerfectRow_9 post (nI (ps_pa T n 0)) (nI T) wS rL sg rC gR hd lW lv oN ur cR m (nI i) K V N nx ws fo pr rs fs rc mh := by
  have t4 := ps_T4 hT
  have e1 : nI T - 1 = nI (T - 1) := ps_p1 (by omega)
  intro m
  induction m with
  | zero => intro i pr _ h; omega
  | succ m ih =>
    intro i pr hi hm h0 h1
    refine ps_if (d := T - 1 ≤ i) (by rw [e1]; exact nI_leI (by omega) (by omega)) (fun q => hp pr (fun j hj => ?_)) (fun q => ?_)
    · by_cases ji : j < i
      · exact h0 j ji
      · rw [h1 j (by omega) hj, ps_pa_0 hT (by omega), ps_pa_0 hT (by omega)]
    · have ei : (nI i).toNatClampNeg = i := nI_clamp (by omega)
      have en : (nI i + 1).toNatClampNeg = i + 1 := by rw [nI_1]; exact nI_clamp (by omega)
      have v : nI (ps_pa T n 0) + pr (i + 1) = nI (ps_pa T (n + 1) i) := by
        rw [h1 (i + 1) (by omega) (by omega), nI_add, ps_pa_s, if_pos (by omega)]
      refine And.intro (by rw [nI_1]; exact vp_in_nI (by omega) (by decide)) (And.intro (vp_in_nI (by omega) (by decide)) (nm_r (e' := upd pr i (nI (ps_pa T (n + 1) i))) (by rw [en, ei, v]) (nm_r (nI_1 i) (ih (i + 1) _ (by omega) (by omega) (fun j hj => ?_) (fun j hj hj4 => ?_)))))
      · by_cases e : j = i
        · rw [e, pk_us]
        · rw [pk_un e]; exact h0 j (by omega)
      · rw [pk_un (by omega)]; exact h1 j (by omega) hj4
theorem px_rp {wS rL sg rC gR hd lW lv oN ur cR : Int32} {K V N nx ws fo pr rs fs rc mh : Nat → Int32} {post : St2 → Prop} {T n : Nat} (hT : ps_T34 T) (h : ∀ j, j < 4 → pr j = nI (ps_pa T n j)) (hp : ∀ pr : Nat → Int32, (∀ j, j < 4 → pr j = nI (ps_pa T (n + 1) j)) → post (nI T, wS, rL, sg, rC, gR, hd, lW, lv, oN, ur, cR, K, V, N, nx, ws, fo, pr, rs, fs, rc, mh)) : wpX_raisePerfectRow post (nI T, wS, rL, sg, rC, gR, hd, lW, lv, oN, ur, cR, K, V, N, nx, ws, fo, pr, rs, fs, rc, mh) := by
  have t4 := ps_T4 hT
  exact nm_r (h 0 (by omega)) (Exists.intro T (px_rpl hT hp T 0 pr (by omega) (by omega) (fun j hj => absurd hj (Nat.not_lt_zero j)) (fun j _ hj => h j hj)))
theorem px_ptl {wS rL sg rC gR hd lW lv oN ur cR : Int32} {K V N nx ws fo pr rs fs rc mh : Nat → Int32} {post : Int32 → Prop} {T n : Nat} (hT : ps_T34 T) (h : ∀ j, j < 4 → pr j = nI (ps_pa T n j)) (hp : post (nI (ps_tt T n))) :
    ∀ m i, i + 1 ≤ T → T - 1 - i < m → wX_perfectTotal_4 post (nI T) wS rL sg rC gR hd lW lv oN ur cR K V N nx ws fo pr rs fs rc mh m (nI (ps_sm T n i)) (nI i) := by
  have t4 := ps_T4 hT
  have e1 : nI T - 1 = nI (T - 1) := ps_p1 (by omega)
  intro m
  induction m with
  | zero => intro i _ h; omega
  | succ m ih =>
    intro i hi hm
    refine ps_if (d := T - 1 ≤ i) (by rw [e1]; exact nI_leI (by omega) (by omega)) (fun q => ?_) (fun q => ?_)
    · have e : i = T - 1 := by omega
      rw [e, ps_sm_tt hT]; exact hp
    · have ei : (nI i).toNatClampNeg = i := nI_clamp (by omega)
      refine And.intro (vp_in_nI (by omega) (by decide)) (nm_r (e' := nI (ps_sm T n (i + 1))) (by rw [ei, h i (by omega), nI_add]; rfl) (nm_r (nI_1 i) (ih (i + 1) (by omega) (by omega))))
theorem px_pt {wS rL sg rC gR hd lW lv oN ur cR : Int32} {K V N nx ws fo pr rs fs rc mh : Nat → Int32} {post : Int32 → Prop} {T n : Nat} (hT : ps_T34 T) (h : ∀ j, j < 4 → pr j = nI (ps_pa T n j)) (hp : post (nI (ps_tt T n))) : wpX_perfectTotal post (nI T, wS, rL, sg, rC, gR, hd, lW, lv, oN, ur, cR, K, V, N, nx, ws, fo, pr, rs, fs, rc, mh) := by
  have t4 := ps_T4 hT
  exact Exists.intro T (px_ptl hT h hp T 0 (by omega) (by omega))
theorem px_c36 {wS rL sg rC hd lW oN ur cR : Int32} {K V N nx ws fo rs fs rc mh : Nat → Int32} {post : St2 → Prop} {T R n : Nat} (hT : ps_T34 T) (hR : R ≤ 32) (hn : n + T ≤ 10) (h1 : R ≤ ps_tt T n) (h2 : ∀ m, m < n → ps_tt T m < R)
    (hp : ∀ pr : Nat → Int32, (∀ j, j < 4 → pr j = nI (ps_pa T n j)) → post (nI T, wS, rL, sg, rC, nI R, hd, lW, nI n, oN, ur, cR, K, V, N, nx, ws, fo, pr, rs, fs, rc, mh)) :
    ∀ m i (pr : Nat → Int32), i ≤ n → n - i < m → (∀ j, j < 4 → pr j = nI (ps_pa T i j)) → wX_chooseLevel_36 post m (nI (ps_tt T i)) (nI i) (nI T) wS rL sg rC (nI R) hd lW (nI i) oN ur cR K V N nx ws fo pr rs fs rc mh := by
  have t4 := ps_T4 hT
  intro m
  induction m with
  | zero => intro i pr _ h; omega
  | succ m ih =>
    intro i pr hi hm h
    have tb := ps_ttb hT (n := i) (by omega)
    have fin : i = n → post (nI T, wS, rL, sg, rC, nI R, hd, lW, nI i, oN, ur, cR, K, V, N, nx, ws, fo, pr, rs, fs, rc, mh) := by
      intro e
      subst e
      exact hp pr h
    refine ps_if (d := 7 ≤ i) (nI_leI (a := 7) (by omega) (by omega)) (fun q => fin (by omega)) (fun q => ps_if (d := R ≤ ps_tt T i) (nI_leI (by omega) (by omega)) (fun z => fin ?_) (fun z => ?_))
    · by_cases e : i = n
      · exact e
      · have := h2 i (by omega); omega
    · have il : i < n := by
        by_cases e : i = n
        · rw [e] at z; exact absurd h1 z
        · omega
      refine px_rp hT h (fun pr' h' => nm_r (nI_1 i) ?_)
      exact px_pt hT h' (nm_r (nI_1 i) (ih (i + 1) pr' (by omega) (by omega) h'))
theorem px_c9 {tT wS rL sg rC gR hd lW lv oN ur cR : Int32} {K V N nx ws fo rs fs rc mh : Nat → Int32} {post : St2 → Prop} {T : Nat} (hT : ps_T34 T) (hp : ∀ pr : Nat → Int32, (∀ j, j < 4 → pr j = nI (ps_pa T 0 j)) → ∃ n36 : Nat, wX_chooseLevel_36 post n36 1 0 tT wS rL sg rC gR hd lW 0 oN ur cR K V N nx ws fo pr rs fs rc mh) :
    ∀ m i (pr : Nat → Int32), 1 ≤ i → i ≤ 4 → 4 - i < m → pr 0 = 1 → (∀ j, 1 ≤ j → j < i → pr j = 0) → wX_chooseLevel_9 post tT wS rL sg rC gR hd lW lv oN ur cR m (nI i) K V N nx ws fo pr rs fs rc mh := by
  intro m
  induction m with
  | zero => intro i pr _ _ h; omega
  | succ m ih =>
    intro i pr i1 i4 hm p0 pz
    refine ps_if (d := 4 ≤ i) (nI_leI (a := 4) (by omega) (by omega)) (fun q => hp pr (fun j hj => ?_)) (fun q => ?_)
    · by_cases e : j = 0
      · rw [e]; exact p0
      · rw [pz j (by omega) (by omega)]
        have : ps_pa T 0 j = 0 := if_neg e
        rw [this]; rfl
    · refine And.intro (vp_in_nI (by omega) (by decide)) (nm_r (e' := upd pr i 0) (by rw [nI_clamp (by omega)]) (nm_r (nI_1 i) (ih (i + 1) _ (by omega) (by omega) (by omega) ?_ (fun j j1 ji => ?_))))
      · rw [pk_un (by omega)]; exact p0
      · by_cases e : j = i
        · rw [e, pk_us]
        · rw [pk_un e]; exact pz j j1 (by omega)
theorem px_ch {wS rL sg rC hd lW lv oN ur cR : Int32} {K V N nx ws fo pr rs fs rc mh : Nat → Int32} {post : St2 → Prop} {T R n : Nat} (hT : ps_T34 T) (hR : R ≤ 32) (hn : n + T ≤ 10) (h1 : R ≤ ps_tt T n) (h2 : ∀ m, m < n → ps_tt T m < R)
    (hp : ∀ pr : Nat → Int32, (∀ j, j < 4 → pr j = nI (ps_pa T n j)) → post (nI T, wS, rL, sg, rC, nI R, hd, lW, nI n, oN, ur, cR, K, V, N, nx, ws, fo, pr, rs, fs, rc, mh)) : wpX_chooseLevel post (nI T, wS, rL, sg, rC, nI R, hd, lW, lv, oN, ur, cR, K, V, N, nx, ws, fo, pr, rs, fs, rc, mh) := by
  refine nm_e (Exists.intro 4 (px_c9 hT (fun pr' h' => ?_) 4 1 (upd pr 0 1) (by omega) (by omega) (by omega) pk_us (fun j a b => by omega)))
  have g := px_c36 hT hR hn h1 h2 hp (n + 1) 0 pr' (by omega) (by omega) h'
  have e0 : ps_tt T 0 = 1 := rfl
  rw [e0] at g
  exact Exists.intro (n + 1) g
end
section
/-! the runs are spread over the tapes. -/
theorem px_etl {tT wS rL sg rC gR hd lW lv oN ur cR : Int32} {K V N nx ws fo pr rs mh : Nat → Int32} {post : St2 → Prop} (hp : ∀ fs rc : Nat → Int32, (∀ t, t < 4 → fs t = 0 ∧ rc t = 0) → post (tT, wS, rL, sg, rC, gR, hd, lW, lv, oN, ur, cR, K, V, N, nx, ws, fo, pr, rs, fs, rc, mh)) :
    ∀ m i (fs rc : Nat → Int32), i ≤ 4 → 4 - i < m → (∀ t, t < i → fs t = 0 ∧ rc t = 0) → wX_emptyTapes_2 post tT wS rL sg rC gR hd lW lv oN ur cR m (nI i) K V N nx ws fo pr rs fs rc mh := by
  intro m
  induction m with
  | zero => intro i fs rc _ h; omega
  | succ m ih =>
    intro i fs rc hi hm h
    refine ps_if (d := 4 ≤ i) (nI_leI (a := 4) (by omega) (by omega)) (fun q => hp fs rc (fun t ht => h t (by omega))) (fun q => ?_)
    have ei : (nI i).toNatClampNeg = i := nI_clamp (by omega)
    have ii : vp_in (nI i) 4 := vp_in_nI (by omega) (by decide)
    refine And.intro ii (nm_r (e' := upd fs i 0) (by rw [ei]) (And.intro ii (nm_r (e' := upd rc i 0) (by rw [ei]) (nm_r (nI_1 i) (ih (i + 1) _ _ (by omega) (by omega) (fun t ht => ?_))))))
    by_cases e : t = i
    · rw [e]; exact ⟨pk_us, pk_us⟩
    · rw [pk_un e, pk_un e]; exact h t (by omega)
theorem px_et {tT wS rL sg rC gR hd lW lv oN ur cR : Int32} {K V N nx ws fo pr rs fs rc mh : Nat → Int32} {post : St2 → Prop} (hp : ∀ fs rc : Nat → Int32, (∀ t, t < 4 → fs t = 0 ∧ rc t = 0) → post (tT, wS, rL, sg, rC, gR, hd, lW, lv, oN, ur, cR, K, V, N, nx, ws, fo, pr, rs, fs, rc, mh)) : wpX_emptyTapes post (tT, wS, rL, sg, rC, gR, hd, lW, lv, oN, ur, cR, K, V, N, nx, ws, fo, pr, rs, fs, rc, mh) :=
  Exists.intro 5 (px_etl hp 5 0 fs rc (by omega) (by omega) (fun t h => absurd h (Nat.not_lt_zero t)))
theorem px_ap {tT wS rL sg rC gR hd lW lv oN ur cR : Int32} {K V N nx ws fo pr rs fs rc mh : Nat → Int32} {post : St2 → Prop} {t f r : Nat} {g : Int32} (ht : t < 4) (hf : fs t = nI f) (hr : rc t = nI r) (f32 : f < 32) (r32 : r < 1000)
    (hp : post (tT, wS, rL, sg, rC, gR, hd, lW, lv, oN, ur, cR, K, V, N, nx, ws, fo, pr, upd rs (t * 32 + (f + r) % 32) g, fs, upd rc t (nI (r + 1)), mh)) : wpX_appendRun post (tT, wS, rL, sg, rC, gR, hd, lW, lv, oN, ur, cR, K, V, N, nx, ws, fo, pr, rs, fs, rc, mh) (nI t) g := by
  have et : (nI t).toNatClampNeg = t := nI_clamp (by omega)
  have it : vp_in (nI t) 4 := vp_in_nI ht (by decide)
  have e3 : (fs (nI t).toNatClampNeg + rc (nI t).toNatClampNeg) - (fs (nI t).toNatClampNeg + rc (nI t).toNatClampNeg) / 32 * 32 = nI ((f + r) % 32) := by
    rw [et, hf, hr, nI_add]
    exact pk_rem (d := 32) (by omega) (by omega) (by omega)
  have ex : nI t * 32 + nI ((f + r) % 32) = nI (t * 32 + (f + r) % 32) := by
    have h1 : nI t * 32 = nI (t * 32) := pk_mul t 32
    rw [h1, nI_add]
  refine And.intro it (And.intro it (And.intro (by decide) (nm_r e3 (And.intro (by rw [ex]; exact vp_in_nI (by omega) (by decide)) (nm_r (e' := upd rs (t * 32 + (f + r) % 32) g) (by rw [ex, nI_clamp (by omega)]) (And.intro it (And.intro it (nm_r (e' := upd rc t (nI (r + 1))) (by rw [et, hr, nI_1]) hp))))))))
/-- while the runs are spread: round q, tape t; D dummies are left, w runs written -/
def ps_DI (T c R n q t D w : Nat) (L : Nat → Nat → Prop) (rn sl fsN rcN : Nat → Nat) (rs rc : Nat → Int32) : Prop :=
  ps_Dist c L rn w sl fsN rcN rs ∧ (∀ i, i < 4 → rc i = nI (rcN i)) ∧ (∀ i, i + 1 < T → i < t → rcN i = min (ps_pa T n i) (q + 1)) ∧ (∀ i, i + 1 < T → t ≤ i → rcN i = min (ps_pa T n i) q) ∧ (∀ i, T ≤ i + 1 → i < 4 → rcN i = 0)
    ∧ D + R + (rcN 0 + rcN 1 + rcN 2) = ps_tt T n + w ∧ (D = 0 ∨ w = 0) ∧ w ≤ R
theorem ps_DI_lt {T c R n q t D w : Nat} {L : Nat → Nat → Prop} {rn sl fsN rcN : Nat → Nat} {rs rc : Nat → Int32} (hT : ps_T34 T) (h : ps_DI T c R n q t D w L rn sl fsN rcN rs rc) (ht : t + 1 < T) (hq : q < ps_pa T n t) :
    rcN 0 + rcN 1 + rcN 2 < ps_tt T n ∧ rcN t = q := by
  obtain ⟨_, _, a, b, z, _⟩ := h
  have t4 := ps_T4 hT
  have bt := b t ht (Nat.le_refl t)
  have up : ∀ i, i < 3 → rcN i ≤ ps_pa T n i := by
    intro i hi
    by_cases e : i + 1 < T
    · by_cases l : i < t
      · rw [a i e l]; omega
      · rw [b i e (by omega)]; omega
    · rw [z i (by omega) (by omega)]; omega
  have u0 := up 0 (by omega)
  have u1 := up 1 (by omega)
  have u2 := up 2 (by omega)
  have e : rcN t = q := by omega
  refine ⟨?_, e⟩
  unfold ps_tt
  have c3 : t = 0 ∨ t = 1 ∨ t = 2 := by omega
  rcases c3 with c3 | c3 | c3 <;> subst c3 <;> omega
theorem px_d27 {wS rL sg rC gR hd lW lv oN ur cR : Int32} {K V N nx ws fo pr fs mh : Nat → Int32} {post : St2 → Prop} {J : Int32 → Int32 → Int32 → Int32 → Int32 → Int32 → Int32 → Int32 → Int32 → Int32 → Int32 → Int32 → Int32 → Int32 → Int32 → (Nat → Int32) → (Nat → Int32) → (Nat → Int32) → (Nat → Int32) → (Nat → Int32) → (Nat → Int32) → (Nat → Int32) → (Nat → Int32) → (Nat → Int32) → (Nat → Int32) → (Nat → Int32) → Prop}
    {T c R n q : Nat} {rn fsN : Nat → Nat} (hT : ps_T34 T) (hn : n + T ≤ 10) (hR : R ≤ 32) (hq : q < 32) (hpr : ∀ j, j < 4 → pr j = nI (ps_pa T n j)) (hfs : ∀ t, t < 4 → fs t = 0) (hz : ∀ t, t < 4 → fsN t = 0)
    (h1 : ∀ x, x < c → 1 ≤ rn x) (hfo : ∀ r, 1 ≤ r → r ≤ R → ps_mi (ps_L K) (fun x => x < c ∧ rn x = r) (fo (r - 1)))
    (hJ : ∀ (D w : Nat) (sl rcN : Nat → Nat) (rs rc : Nat → Int32), D ≤ 72 → ps_DI T c R n (q + 1) 0 D w (ps_L K) rn sl fsN rcN rs rc → J (nI D) (nI w) (nI (q + 1)) (nI T) wS rL sg rC gR hd lW lv oN ur cR K V N nx ws fo pr rs fs rc mh) :
    ∀ (m t D w : Nat) (sl rcN : Nat → Nat) (rs rc : Nat → Int32), t + 1 ≤ T → T - 1 - t < m → D ≤ 72 → ps_DI T c R n q t D w (ps_L K) rn sl fsN rcN rs rc → wX_distributeRuns_27 post J (nI q) m (nI D) (nI w) (nI t) (nI T) wS rL sg rC gR hd lW lv oN ur cR K V N nx ws fo pr rs fs rc mh := by
  have t4 := ps_T4 hT
  have e1 : nI T - 1 = nI (T - 1) := ps_p1 (by omega)
  intro m
  induction m with
  | zero => intro t D w sl rcN rs rc _ h; omega
  | succ m ih =>
    intro t D w sl rcN rs rc ht hm hD I
    refine ps_if (d := T - 1 ≤ t) (by rw [e1]; exact nI_leI (by omega) (by omega)) (fun z => nm_r (nI_1 q) (hJ D w sl rcN rs rc hD ?_)) (fun z => ?_)
    · obtain ⟨i1, i2, i3, i4, i5, i6, i7, i8⟩ := I
      exact ⟨i1, i2, fun i _ hi => absurd hi (Nat.not_lt_zero i), fun i hi _ => i3 i hi (by omega), i5, i6, i7, i8⟩
    · have et : (nI t).toNatClampNeg = t := nI_clamp (by omega)
      have pb := ps_pab hT hn t
      refine And.intro (vp_in_nI (by omega) (by decide)) (ps_if (d := q < ps_pa T n t) (by rw [et, hpr t (by omega)]; exact nI_ltI (by omega) (by omega)) (fun y => ?_) (fun y => ?_))
      · have lt := ps_DI_lt hT I (by omega) y
        obtain ⟨i1, i2, i3, i4, i5, i6, i7, i8⟩ := I
        have r32 : rcN t < 32 := by omega
        have et2 : t * 32 + (0 + rcN t) % 32 = t * 32 + rcN t := by omega
        refine ps_if (d := D ≤ 0) (nI_leI (b := 0) (by omega) (by omega)) (fun d0 => ?_) (fun d0 => ?_)
        · have D0 : D = 0 := by omega
          have wR : w < R := by omega
          have ew : (nI w).toNatClampNeg = w := nI_clamp (by omega)
          refine And.intro (vp_in_nI (by omega) (by decide)) (px_ap (f := 0) (r := rcN t) (by omega) (hfs t (by omega)) (i2 t (by omega)) (by omega) (by omega) ?_)
          refine nm_r (nI_1 w) (nm_r (nI_1 t) ?_)
          rw [ew, et2]
          refine ih (t + 1) D (w + 1) (ps_un sl (w + 1) (t * 32 + rcN t)) (ps_un rcN t (rcN t + 1)) _ _ (by omega) (by omega) hD ⟨ps_DistR i1 h1 hz (by omega) r32 (hfo (w + 1) (by omega) (by omega)), ?_, ?_, ?_, ?_, ?_, Or.inl D0, by omega⟩
          · intro i hi
            by_cases e : i = t
            · rw [e, pk_us, ps_us]
            · rw [pk_un e, ps_uo e]; exact i2 i hi
          · intro i hi hi2
            by_cases e : i = t
            · rw [e, ps_us]; omega
            · rw [ps_uo e]; exact i3 i hi (by omega)
          · intro i hi hi2
            rw [ps_uo (by omega)]; exact i4 i hi (by omega)
          · intro i hi hi2
            rw [ps_uo (by omega)]; exact i5 i hi hi2
          · have c3 : t = 0 ∨ t = 1 ∨ t = 2 := by omega
            rcases c3 with c3 | c3 | c3
            · subst c3; rw [ps_us, ps_uo (by omega), ps_uo (by omega)]; omega
            · subst c3; rw [ps_us, ps_uo (by omega), ps_uo (by omega)]; omega
            · subst c3; rw [ps_us, ps_uo (by omega), ps_uo (by omega)]; omega
        · have w0 : w = 0 := by omega
          obtain ⟨D', rfl⟩ : ∃ D', D = D' + 1 := ⟨D - 1, by omega⟩
          refine px_ap (f := 0) (r := rcN t) (by omega) (hfs t (by omega)) (i2 t (by omega)) (by omega) (by omega) ?_
          refine nm_r (pk_m1 D') (nm_r (nI_1 t) ?_)
          rw [et2]
          refine ih (t + 1) D' w sl (ps_un rcN t (rcN t + 1)) _ _ (by omega) (by omega) (by omega) ⟨ps_DistD i1 h1 hz (by omega) r32, ?_, ?_, ?_, ?_, ?_, Or.inr w0, i8⟩
          · intro i hi
            by_cases e : i = t
            · rw [e, pk_us, ps_us]
            · rw [pk_un e, ps_uo e]; exact i2 i hi
          · intro i hi hi2
            by_cases e : i = t
            · rw [e, ps_us]; omega
            · rw [ps_uo e]; exact i3 i hi (by omega)
          · intro i hi hi2
            rw [ps_uo (by omega)]; exact i4 i hi (by omega)
          · intro i hi hi2
            rw [ps_uo (by omega)]; exact i5 i hi hi2
          · have c3 : t = 0 ∨ t = 1 ∨ t = 2 := by omega
            rcases c3 with c3 | c3 | c3
            · subst c3; rw [ps_us, ps_uo (by omega), ps_uo (by omega)]; omega
            · subst c3; rw [ps_us, ps_uo (by omega), ps_uo (by omega)]; omega
            · subst c3; rw [ps_us, ps_uo (by omega), ps_uo (by omega)]; omega
      · obtain ⟨i1, i2, i3, i4, i5, i6, i7, i8⟩ := I
        refine nm_r (nI_1 t) (ih (t + 1) D w sl rcN rs rc (by omega) (by omega) hD ⟨i1, i2, ?_, fun i a b => i4 i a (by omega), i5, i6, i7, i8⟩)
        intro i hi hi2
        by_cases e : i = t
        · rw [e]
          have := i4 t (by omega) (Nat.le_refl t)
          omega
        · exact i3 i hi (by omega)
theorem px_d18 {wS rL sg rC gR hd lW lv oN ur cR : Int32} {K V N nx ws fo pr fs mh : Nat → Int32} {post : St2 → Prop} {T c R n : Nat} {rn fsN : Nat → Nat} (hT : ps_T34 T) (hn : n + T ≤ 10) (hR : R ≤ 32) (hpr : ∀ j, j < 4 → pr j = nI (ps_pa T n j)) (hfs : ∀ t, t < 4 → fs t = 0) (hz : ∀ t, t < 4 → fsN t = 0)
    (h1 : ∀ x, x < c → 1 ≤ rn x) (hfo : ∀ r, 1 ≤ r → r ≤ R → ps_mi (ps_L K) (fun x => x < c ∧ rn x = r) (fo (r - 1)))
    (hp : ∀ (sl rcN : Nat → Nat) (rs rc : Nat → Int32), ps_Dist c (ps_L K) rn R sl fsN rcN rs → (∀ t, t < 4 → rc t = nI (rcN t)) → (∀ t, t < 4 → rcN t = ps_pa T n t) → post (nI T, wS, rL, sg, rC, gR, hd, lW, lv, oN, ur, cR, K, V, N, nx, ws, fo, pr, rs, fs, rc, mh)) :
    ∀ (m q D w : Nat) (sl rcN : Nat → Nat) (rs rc : Nat → Int32), q ≤ 32 → 32 - q < m → D ≤ 72 → ps_DI T c R n q 0 D w (ps_L K) rn sl fsN rcN rs rc → wX_distributeRuns_18 post m (nI D) (nI w) (nI q) (nI T) wS rL sg rC gR hd lW lv oN ur cR K V N nx ws fo pr rs fs rc mh := by
  have t4 := ps_T4 hT
  intro m
  induction m with
  | zero => intro q D w sl rcN rs rc _ h; omega
  | succ m ih =>
    intro q D w sl rcN rs rc hq hm hD I
    refine ps_if (d := 32 ≤ q) (nI_leI (a := 32) (by omega) (by omega)) (fun z => ?_) (fun z => ?_)
    · obtain ⟨i1, i2, i3, i4, i5, i6, i7, i8⟩ := I
      have er : ∀ t, t < 4 → rcN t = ps_pa T n t := by
        intro t ht
        by_cases e : t + 1 < T
        · have := i4 t e (Nat.zero_le t)
          have := ps_pab hT hn t
          omega
        · rw [i5 t (by omega) ht, ps_pa_0 hT (by omega)]
      have w1 : w = R := by
        have r0 := er 0 (by omega)
        have r1 := er 1 (by omega)
        have r2 := er 2 (by omega)
        unfold ps_tt at i6
        omega
      rw [w1] at i1
      exact hp sl rcN rs rc i1 i2 er
    · exact Exists.intro T (px_d27 hT hn hR (by omega) hpr hfs hz h1 hfo (fun D w sl rcN rs rc hD I => ih (q + 1) D w sl rcN rs rc (by omega) (by omega) hD I) T 0 D w sl rcN rs rc (by omega) (by omega) hD I)
theorem px_di {wS rL sg rC hd lW lv oN ur cR : Int32} {K V N nx ws fo pr rs fs rc mh : Nat → Int32} {post : St2 → Prop} {T c R n : Nat} {rn : Nat → Nat} (hT : ps_T34 T) (hn : n + T ≤ 10) (hR : R ≤ 32) (hRt : R ≤ ps_tt T n) (hpr : ∀ j, j < 4 → pr j = nI (ps_pa T n j))
    (h1 : ∀ x, x < c → 1 ≤ rn x) (hfo : ∀ r, 1 ≤ r → r ≤ R → ps_mi (ps_L K) (fun x => x < c ∧ rn x = r) (fo (r - 1)))
    (hp : ∀ (sl rcN : Nat → Nat) (rs fs rc : Nat → Int32), (∀ t, t < 4 → fs t = 0) → ps_Dist c (ps_L K) rn R sl (fun _ => 0) rcN rs → (∀ t, t < 4 → rc t = nI (rcN t)) → (∀ t, t < 4 → rcN t = ps_pa T n t) → post (nI T, wS, rL, sg, rC, nI R, hd, lW, lv, oN, ur, cR, K, V, N, nx, ws, fo, pr, rs, fs, rc, mh)) :
    wpX_distributeRuns post (nI T, wS, rL, sg, rC, nI R, hd, lW, lv, oN, ur, cR, K, V, N, nx, ws, fo, pr, rs, fs, rc, mh) := by
  have t4 := ps_T4 hT
  have tb := ps_ttb hT hn
  unfold wpX_distributeRuns
  refine px_et (fun fs' rc' h0 => ?_)
  refine px_pt hT hpr (nm_r (pk_sub hRt) ?_)
  refine Exists.intro 33 (px_d18 (fsN := fun _ => 0) hT hn hR hpr (fun t ht => (h0 t ht).1) (fun _ _ => rfl) h1 hfo (fun sl rcN rs rc a b c => hp sl rcN rs fs' rc (fun t ht => (h0 t ht).1) a b c) 33 0 (ps_tt T n - R) 0 (fun _ => 0) (fun _ => 0) rs rc' (by omega) (by omega) (by omega) ?_)
  refine ⟨ps_Dist0 _ _ _ _ _ _ _ (fun _ _ => rfl), fun i hi => (h0 i hi).2, fun i _ hi => absurd hi (Nat.not_lt_zero i), fun i _ _ => ?_, fun _ _ _ => rfl, ?_, Or.inr rfl, by omega⟩
  · show 0 = min _ 0
    omega
  · show ps_tt T n - R + R + (0 + 0 + 0) = ps_tt T n + 0
    omega
end
section
/-! finish, the reference's side, and the case. -/
theorem ps_tt1 {T n : Nat} (hT : ps_T34 T) (h1 : 1 ≤ n) (hn : n + T ≤ 10) : 1 ≤ ps_pa T n (T - 2) ∧ (∀ j, j + 1 < T → ps_pa T n (T - 2) ≤ ps_pa T n j) := by
  rcases hT with e | e
  · subst e
    have t := ps_tab3 n (by omega)
    refine ⟨by show 1 ≤ ps_pa 3 n 1; omega, fun j hj => ?_⟩
    show ps_pa 3 n 1 ≤ ps_pa 3 n j
    have c : j = 0 ∨ j = 1 := by omega
    rcases c with c | c <;> subst c <;> omega
  · subst e
    have t := ps_tab4 n (by omega)
    refine ⟨by show 1 ≤ ps_pa 4 n 2; omega, fun j hj => ?_⟩
    show ps_pa 4 n 2 ≤ ps_pa 4 n j
    have c : j = 0 ∨ j = 1 ∨ j = 2 := by omega
    rcases c with c | c | c <;> subst c <;> omega
/-! the case -/
theorem ps_FeedE {c R : Nat} {L : Nat → Nat → Prop} {rn : Nat → Nat} {wr : Nat → Prop} {nx fo : Nat → Int32} {lW : Int32} (F : ps_Feed c L rn wr nx fo lW) (al : ∀ x, x < c → wr x) (hR : ps_Rn c R rn) :
    (∀ r, 1 ≤ r → r ≤ R → ps_mi L (fun x => x < c ∧ rn x = r) (fo (r - 1))) ∧ (∀ x, x < c → ps_mi L (fun y => y < c ∧ rn y = rn x ∧ L x y) (nx x)) := by
  obtain ⟨wc, h⟩ := F
  rcases h with ⟨_, n, _⟩ | ⟨l, _, hl, hle, _, hfo, hnx⟩
  · have c0 : c = 0 := by
      by_cases e : c = 0
      · exact e
      · exact absurd (al 0 (by omega)) (n 0)
    have R0 := hR.2.1 c0
    exact ⟨fun r a b => by omega, fun x hx => by omega⟩
  · have lc := wc l hl
    have eR : rn l = R := by
      obtain ⟨x, hx, ex⟩ := hR.2.2.1 (by omega)
      have a := (hR.1 l lc).2
      rcases hle x (al x hx) with q | q
      · rw [← q]; exact ex
      · have := ps_R_le q; omega
    refine ⟨fun r a b => ps_mi_c (fun y => ⟨fun z => ⟨wc y z.1, z.2⟩, fun z => ⟨al y z.1, z.2⟩⟩) (hfo r a (by omega)), fun x hx => ps_mi_c (fun y => ⟨fun z => ⟨wc y z.1, z.2⟩, fun z => ⟨al y z.1, z.2⟩⟩) (hnx x (al x hx))⟩
/-- one live slot alone: the whole is sorted -/
theorem ps_toS {c s0 : Nat} {L : Nat → Nat → Prop} {own : Nat → Nat} {live : Nat → Prop} {nx rs : Nat → Int32} (O : ps_Own c L own live nx rs) (h0 : live s0) (h1 : ∀ s, live s → s = s0) :
    ps_mi L (fun x => x < c) (rs s0) ∧ (∀ x, x < c → ps_mi L (fun y => y < c ∧ L x y) (nx x)) := by
  obtain ⟨a, m, n⟩ := O
  have eo : ∀ x, x < c → own x = s0 := fun x hx => h1 _ (a x hx)
  refine ⟨ps_mi_c (fun y => ⟨fun z => z.1, fun z => ⟨z, eo y z⟩⟩) (m s0 h0), fun x hx => ps_mi_c (fun y => ⟨fun z => ⟨z.1, z.2.2⟩, fun z => ⟨z.1, (eo y z.1).trans (eo x hx).symm, z.2⟩⟩) (n x hx)⟩
theorem px_fro {tT wS rL sg rC gR hd lW lv oN ur cR : Int32} {K V N nx ws fo pr rs fs rc mh : Nat → Int32} {post : Int32 → Prop} {f p : Nat} (hf : f < 4) (hfs : fs f = nI p) (hp32 : p < 32) (hp : post (rs (f * 32 + p))) : wpX_firstRunOn post (tT, wS, rL, sg, rC, gR, hd, lW, lv, oN, ur, cR, K, V, N, nx, ws, fo, pr, rs, fs, rc, mh) (nI f) := by
  have ef : (nI f).toNatClampNeg = f := nI_clamp (by omega)
  have ex : nI f * 32 + fs (nI f).toNatClampNeg = nI (f * 32 + p) := by
    have h1 : nI f * 32 = nI (f * 32) := pk_mul f 32
    rw [ef, hfs, h1, nI_add]
  refine And.intro (vp_in_nI hf (by decide)) (And.intro (by rw [ex]; exact vp_in_nI (by omega) (by decide)) ?_)
  rw [ex, nI_clamp (by omega)]
  exact hp
theorem px_es {tT wS rL sg rC gR hd lW lv ur cR : Int32} {K V N nx ws fo pr rs fs rc mh : Nat → Int32} {post : St2 → Prop} {f p : Nat} (hf : f < 4) (hfs : fs f = nI p) (hp32 : p < 32) (hp : post (tT, wS, rL, 2, rC, gR, hd, lW, lv, nI f, rs (f * 32 + p), -1, K, V, N, nx, ws, fo, pr, rs, fs, rc, mh)) : wpX_enterSorted post (tT, wS, rL, sg, rC, gR, hd, lW, lv, nI f, ur, cR, K, V, N, nx, ws, fo, pr, rs, fs, rc, mh) := by
  unfold wpX_enterSorted wpX_goToStart
  exact px_fro hf hfs hp32 hp
end
section
/-! merging. -/
theorem ps_mi_m {L : Nat → Nat → Prop} {P : Nat → Prop} (h : ps_mi L P (-1)) (b : ∀ x, P x → x < 64) : ∀ y, ¬ P y := by
  rcases h with ⟨_, n⟩ | ⟨x, ex, p, _⟩
  · exact n
  · exact absurd ex.symm (ps_ne (by have := b x p; omega))
theorem ps_mi_p {L : Nat → Nat → Prop} {P : Nat → Prop} {h : Int32} (a : ps_mi L P h) (n : ¬ h = -1) : ∃ x, h = nI x ∧ P x ∧ ∀ y, P y → y = x ∨ L x y := by
  rcases a with ⟨e, _⟩ | h
  · exact absurd e n
  · exact h
theorem px_tk {tT wS rL sg rC gR hd lW lv oN ur cR : Int32} {K V N nx ws fo pr rs fs rc mh : Nat → Int32} {post : Int32 → St2 → Prop} {t f r : Nat} (ht : t < 4) (hfs : fs t = nI f) (hrc : rc t = nI r) (f32 : f < 32) (r1 : 1 ≤ r)
    (hp : post (rs (t * 32 + f)) (tT, wS, rL, sg, rC, gR, hd, lW, lv, oN, ur, cR, K, V, N, nx, ws, fo, pr, rs, upd fs t (nI ((f + 1) % 32)), upd rc t (nI (r - 1)), mh)) : wpX_takeRun post (tT, wS, rL, sg, rC, gR, hd, lW, lv, oN, ur, cR, K, V, N, nx, ws, fo, pr, rs, fs, rc, mh) (nI t) := by
  have et : (nI t).toNatClampNeg = t := nI_clamp (by omega)
  have it : vp_in (nI t) 4 := vp_in_nI ht (by decide)
  have e3 : (fs (nI t).toNatClampNeg + 1) - (fs (nI t).toNatClampNeg + 1) / 32 * 32 = nI ((f + 1) % 32) := by
    rw [et, hfs, nI_1]
    exact pk_rem (d := 32) (by omega) (by omega) (by omega)
  unfold wpX_takeRun
  refine px_fro ht hfs f32 ?_
  refine And.intro it (And.intro (by decide) (And.intro it (nm_r (e' := upd fs t (nI ((f + 1) % 32))) (by rw [e3, et]) (And.intro it (And.intro it (nm_r (e' := upd rc t (nI (r - 1))) (by rw [et, hrc, ps_p1 r1]) hp))))))
theorem px_tll {wS rL sg rC gR hd lW lv oN ur cR : Int32} {K V N nx ws fo pr rs fs rc mh : Nat → Int32} {post : Int32 → Prop} {T : Nat} {P : Nat → Nat → Prop} (T4 : T ≤ 4) (h64 : ∀ t x, t < T → P t x → x < 64) (hm : ∀ t, t < T → ps_mi (ps_L K) (P t) (mh t))
    (h0 : (∀ t, t < T → mh t = -1) → post (-1)) (h1 : ∀ b r, b < T → mh b = nI r → P b r → (∀ t x, t < T → P t x → x = r ∨ ps_L K r x) → post (nI b)) :
    ∀ m i x, i ≤ T → T - i < m → ((x = -1 ∧ ∀ t, t < i → mh t = -1) ∨ (∃ b r, x = nI b ∧ b < i ∧ mh b = nI r ∧ P b r ∧ ∀ t y, t < i → P t y → y = r ∨ ps_L K r y)) → wX_tapeOfLeastHead_4 post (nI T) wS rL sg rC gR hd lW lv oN ur cR K V N nx ws fo pr rs fs rc mh m x (nI i) := by
  have hT := ps_L_T K
  intro m
  induction m with
  | zero => intro i x _ h; omega
  | succ m ih =>
    intro i x hi hm2 I
    refine ps_if (d := T ≤ i) (nI_leI (by omega) (by omega)) (fun q => ?_) (fun q => ?_)
    · have e : i = T := by omega
      rw [e] at I
      rcases I with ⟨ex, al⟩ | ⟨b, r, ex, hb, eb, pb, mb⟩
      · rw [ex]; exact h0 al
      · rw [ex]; exact h1 b r hb eb pb mb
    · have iT : i < T := by omega
      have ei : (nI i).toNatClampNeg = i := nI_clamp (by omega)
      have ii : vp_in (nI i) 4 := vp_in_nI (by omega) (by decide)
      refine And.intro ii (ps_if (d := mh i = -1) (by rw [ei]) (fun z => ?_) (fun z => ?_))
      · have no := ps_mi_m (z ▸ hm i iT) (fun x px => h64 i x iT px)
        refine nm_r (nI_1 i) (ih (i + 1) x (by omega) (by omega) ?_)
        rcases I with ⟨ex, al⟩ | ⟨b, r, ex, hb, eb, pb, mb⟩
        · refine Or.inl ⟨ex, fun t ht => ?_⟩
          by_cases e : t = i
          · rw [e]; exact z
          · exact al t (by omega)
        · refine Or.inr ⟨b, r, ex, by omega, eb, pb, fun t y ht py => ?_⟩
          by_cases e : t = i
          · rw [e] at py; exact absurd py (no y)
          · exact mb t y (by omega) py
      · obtain ⟨s, es, ps, ms⟩ := ps_mi_p (hm i iT) z
        have s64 := h64 i s iT ps
        rcases I with ⟨ex, al⟩ | ⟨b, r, ex, hb, eb, pb, mb⟩
        · refine br_t ex (nm_r (nI_1 i) (ih (i + 1) (nI i) (by omega) (by omega) (Or.inr ⟨i, s, rfl, by omega, es, ps, fun t y ht py => ?_⟩)))
          by_cases e : t = i
          · rw [e] at py; exact ms y py
          · exact absurd py (ps_mi_m (al t (by omega) ▸ hm t (by omega)) (fun x px => h64 t x (by omega) px) y)
        · subst ex
          have r64 := h64 b r (by omega) pb
          refine br_f (ps_ne (by omega)) (And.intro ii (And.intro (vp_in_nI (by omega) (by decide)) ?_))
          have e2 : mh (nI i).toNatClampNeg = nI s := by rw [ei]; exact es
          have e3 : mh (nI b).toNatClampNeg = nI r := by rw [nI_clamp (by omega)]; exact eb
          rw [e2, e3]
          refine px_sb s64 r64 (fun l => ?_) (fun l => ?_)
          · refine br_f (by decide) (nm_r (nI_1 i) (ih (i + 1) (nI i) (by omega) (by omega) (Or.inr ⟨i, s, rfl, by omega, es, ps, fun t y ht py => ?_⟩)))
            by_cases e : t = i
            · rw [e] at py; exact ms y py
            · rcases mb t y (by omega) py with g | g
              · rw [g]; exact Or.inr l
              · exact Or.inr (hT.2.1 _ _ _ l g)
          · refine br_t rfl (nm_r (nI_1 i) (ih (i + 1) (nI b) (by omega) (by omega) (Or.inr ⟨b, r, rfl, by omega, eb, pb, fun t y ht py => ?_⟩)))
            by_cases e : t = i
            · rw [e] at py
              by_cases sr : s = r
              · rw [← sr]; exact ms y py
              · have l2 : ps_L K r s := by
                  rcases hT.2.2 s r sr with g | g
                  · exact absurd g l
                  · exact g
                rcases ms y py with g | g
                · rw [g]; exact Or.inr l2
                · exact Or.inr (hT.2.1 _ _ _ l2 g)
            · exact mb t y (by omega) py
theorem px_tl {wS rL sg rC gR hd lW lv oN ur cR : Int32} {K V N nx ws fo pr rs fs rc mh : Nat → Int32} {post : Int32 → Prop} {T : Nat} {P : Nat → Nat → Prop} (T4 : T ≤ 4) (h64 : ∀ t x, t < T → P t x → x < 64) (hm : ∀ t, t < T → ps_mi (ps_L K) (P t) (mh t))
    (h0 : (∀ t, t < T → mh t = -1) → post (-1)) (h1 : ∀ b r, b < T → mh b = nI r → P b r → (∀ t x, t < T → P t x → x = r ∨ ps_L K r x) → post (nI b)) : wpX_tapeOfLeastHead post (nI T, wS, rL, sg, rC, gR, hd, lW, lv, oN, ur, cR, K, V, N, nx, ws, fo, pr, rs, fs, rc, mh) :=
  Exists.intro (T + 1) (px_tll T4 h64 hm h0 h1 (T + 1) 0 (-1) (by omega) (by omega) (Or.inl ⟨rfl, fun t h => absurd h (Nat.not_lt_zero t)⟩))
theorem ps_rem_n {T r : Nat} {L : Nat → Nat → Prop} {U : Nat → Nat → Prop} {x : Nat} (hr : r < 2 ^ 31) : ps_rem T L U (nI r) x ↔ (ps_Un T U x ∧ L r x) := by
  constructor
  · intro h
    refine ⟨h.1, ?_⟩
    rcases h.2 with z | ⟨l, el, l31, hl⟩
    · exact absurd z (ps_ne hr)
    · have e := ps_inj hr l31 el
      rw [e]; exact hl
  · intro h; exact ⟨h.1, Or.inr ⟨r, rfl, hr, h.2⟩⟩
theorem px_mcl {wS rL sg rC gR hd lW lv oN ur cR : Int32} {K V N ws fo pr rs fs rc : Nat → Int32} {post : Int32 → St2 → Prop} {T : Nat} {U : Nat → Nat → Prop} {nx0 : Nat → Int32} (T4 : T ≤ 4) (hU : ps_Ud T U) (hn : ∀ t x, t < T → U t x → ps_mi (ps_L K) (fun y => U t y ∧ ps_L K x y) (nx0 x))
    (hp : ∀ (fi : Int32) (nx mh : Nat → Int32), ps_mi (ps_L K) (ps_Un T U) fi → (∀ x, ps_Un T U x → ps_mi (ps_L K) (fun y => ps_Un T U y ∧ ps_L K x y) (nx x)) → (∀ x, ¬ ps_Un T U x → nx x = nx0 x) → post fi (nI T, wS, rL, sg, rC, gR, hd, lW, lv, oN, ur, cR, K, V, N, nx, ws, fo, pr, rs, fs, rc, mh)) :
    ∀ (m i : Nat) (fi la : Int32) (nx mh : Nat → Int32), i ≤ 64 → 64 - i < m → i + ps_nP (ps_rem T (ps_L K) U la) 64 ≤ 64 → ps_MI T (ps_L K) U nx0 mh nx fi la → wX_mergeChains_6 post (nI T) wS rL sg rC gR hd lW lv oN ur cR m fi la (nI i) K V N nx ws fo pr rs fs rc mh := by
  have hT := ps_L_T K
  have u64 : ∀ x, ps_Un T U x → x < 64 := fun x ⟨t, ht, h⟩ => hU.1 t x ht h
  intro m
  induction m with
  | zero => intro i fi la nx mh _ h; omega
  | succ m ih =>
    intro i fi la nx mh hi hm hP I
    have fin : (∀ x, x < 64 → ¬ ps_rem T (ps_L K) U la x) → post fi (nI T, wS, rL, sg, rC, gR, hd, lW, lv, oN, ur, cR, K, V, N, nx, ws, fo, pr, rs, fs, rc, mh) := by
      intro h
      obtain ⟨a, b, c⟩ := ps_ME hT hU hn I h
      exact hp fi nx mh a b c
    refine ps_if (d := 64 ≤ i) (nI_leI (a := 64) (by omega) (by omega)) (fun q => fin (ps_nP_0 64 (by omega))) (fun q => ?_)
    have hmP : ∀ t, t < T → ps_mi (ps_L K) (fun x => U t x ∧ (la = -1 ∨ ∃ l, la = nI l ∧ l < 2 ^ 31 ∧ ps_L K l x)) (mh t) := by
      intro t ht
      rcases I with ⟨el, _, _, hm0⟩ | ⟨l, el, hl, _, hm0, _, _⟩
      · exact ps_mi_c (fun y => ⟨fun z => ⟨z, Or.inl el⟩, fun z => z.1⟩) (hm0 t ht)
      · refine ps_mi_c (fun y => ⟨fun z => ⟨z.1, Or.inr ⟨l, el, by have := u64 l hl; omega, z.2⟩⟩, fun z => ⟨z.1, ?_⟩⟩) (hm0 t ht)
        rcases z.2 with w | ⟨l', el', l31, hl'⟩
        · rw [el] at w; exact absurd w (ps_ne (by have := u64 l hl; omega))
        · have e := ps_inj (by have := u64 l hl; omega) l31 (el.symm.trans el')
          rw [e]; exact hl'
    refine px_tl T4 (fun t x ht px => hU.1 t x ht px.1) hmP (fun al => ?_) (fun b r hb eb pb mb => ?_)
    · refine br_t rfl (fin (fun x hx hr => ?_))
      obtain ⟨⟨t, ht, ux⟩, af⟩ := hr
      exact ps_mi_m (al t ht ▸ hmP t ht) (fun x px => hU.1 t x ht px.1) x ⟨ux, af⟩
    · have r64 := hU.1 b r hb pb.1
      have er : (nI r).toNatClampNeg = r := nI_clamp (by omega)
      have eb2 : (nI b).toNatClampNeg = b := nI_clamp (by omega)
      have ib : vp_in (nI b) 4 := vp_in_nI (by omega) (by decide)
      have unr : ps_Un T U r := ⟨b, hb, pb.1⟩
      have lt := ps_nP_lt (P := ps_rem T (ps_L K) U la) (Q := ps_rem T (ps_L K) U (nI r)) (r := r) (fun x hx => by
        have g := (ps_rem_n (by omega)).1 hx
        refine ⟨g.1, ?_⟩
        rcases pb.2 with w | ⟨l, el, l31, hl⟩
        · exact Or.inl w
        · exact Or.inr ⟨l, el, l31, hT.2.1 _ _ _ hl g.2⟩) ⟨unr, pb.2⟩ (fun z => hT.1 r ((ps_rem_n (by omega)).1 z).2) 64 r64
      refine br_f (ps_ne (by omega)) (And.intro ib (nm_r (e' := nI r) (by rw [eb2]; exact eb) (And.intro (vp_in_nI r64 (by decide)) (And.intro ib (nm_r (e' := upd mh b (nx r)) (by rw [eb2, er]) ?_)))))
      have I2 := I
      rcases I2 with ⟨el, ef, en, hm0⟩ | ⟨l, el, hl, hf, hm0, hd, hk⟩
      · subst el
        subst en
        refine br_t rfl (nm_r (nI_1 i) (ih (i + 1) (nI r) (nI r) nx (upd mh b (nx r)) (by omega) (by omega) (by omega) (ps_M1 hT hU hn hm0 hb pb.1 (fun x hx => ?_))))
        obtain ⟨t, ht, ux⟩ := hx
        exact mb t x ht ⟨ux, Or.inl rfl⟩
      · have l64 := u64 l hl
        subst el
        have hlr : ps_L K l r := by
          rcases pb.2 with w | ⟨l', el', l31, hl'⟩
          · exact absurd w (ps_ne (by omega))
          · have e := ps_inj (by omega) l31 el'
            rw [e]; exact hl'
        refine br_f (ps_ne (by omega)) (And.intro (vp_in_nI l64 (by decide)) (nm_r (e' := upd nx l (nI r)) (by rw [nI_clamp (by omega)]) (nm_r (nI_1 i) (ih (i + 1) fi (nI r) (upd nx l (nI r)) (upd mh b (nx r)) (by omega) (by omega) (by omega) (ps_M2 hT hU hn hl hf hm0 hd hk hb pb.1 hlr (fun x hx hx2 => ?_))))))
        obtain ⟨t, ht, ux⟩ := hx
        exact mb t x ht ⟨ux, Or.inr ⟨l, rfl, by omega, hx2⟩⟩
theorem px_mc {wS rL sg rC gR hd lW lv oN ur cR : Int32} {K V N nx ws fo pr rs fs rc mh : Nat → Int32} {post : Int32 → St2 → Prop} {T : Nat} {U : Nat → Nat → Prop} (T4 : T ≤ 4) (hU : ps_Ud T U) (hn : ∀ t x, t < T → U t x → ps_mi (ps_L K) (fun y => U t y ∧ ps_L K x y) (nx x)) (hm : ∀ t, t < T → ps_mi (ps_L K) (U t) (mh t))
    (hp : ∀ (fi : Int32) (nx' mh' : Nat → Int32), ps_mi (ps_L K) (ps_Un T U) fi → (∀ x, ps_Un T U x → ps_mi (ps_L K) (fun y => ps_Un T U y ∧ ps_L K x y) (nx' x)) → (∀ x, ¬ ps_Un T U x → nx' x = nx x) → post fi (nI T, wS, rL, sg, rC, gR, hd, lW, lv, oN, ur, cR, K, V, N, nx', ws, fo, pr, rs, fs, rc, mh')) : wpX_mergeChains post (nI T, wS, rL, sg, rC, gR, hd, lW, lv, oN, ur, cR, K, V, N, nx, ws, fo, pr, rs, fs, rc, mh) :=
  Exists.intro 65 (px_mcl T4 hU hn hp 65 0 (-1) (-1) nx mh (by omega) (by omega) (by have := ps_nP_le (ps_rem T (ps_L K) U (-1)) 64; omega) (Or.inl ⟨rfl, rfl, rfl, hm⟩))
/-! the first runs are taken from the input tapes -/
def ps_rp (T f : Nat) (rcN : Nat → Nat) (t : Nat) : Nat := if t < T ∧ t ≠ f then rcN t - 1 else rcN t
theorem px_mfl {wS rL sg rC gR hd lW lv ur cR : Int32} {K V N nx ws fo pr rs : Nat → Int32} {post : St2 → Prop} {T f : Nat} {U : Nat → Nat → Prop} {fsN rcN : Nat → Nat} (T4 : T ≤ 4) (hf : f < T) (h32 : ∀ t, t < 4 → fsN t < 32) (h1 : ∀ t, t < T → t ≠ f → 1 ≤ rcN t) (hr : ∀ t, t < 4 → rcN t ≤ 32)
    (hU : ps_Ud T U) (hn : ∀ t x, t < T → U t x → ps_mi (ps_L K) (fun y => U t y ∧ ps_L K x y) (nx x)) (hm : ∀ t, t < T → t ≠ f → ps_mi (ps_L K) (U t) (rs (t * 32 + fsN t))) (hmf : ∀ x, ¬ U f x)
    (hp : ∀ (fi : Int32) (nx' fs rc mh : Nat → Int32), (∀ t, t < 4 → fs t = nI (ps_f1 T f fsN t)) → (∀ t, t < 4 → rc t = nI (ps_r1 T f rcN t)) → ps_mi (ps_L K) (ps_Un T U) fi → (∀ x, ps_Un T U x → ps_mi (ps_L K) (fun y => ps_Un T U y ∧ ps_L K x y) (nx' x)) → (∀ x, ¬ ps_Un T U x → nx' x = nx x) →
      post (nI T, wS, rL, sg, rC, gR, hd, lW, lv, nI f, ur, cR, K, V, N, nx', ws, fo, pr, upd rs (f * 32 + (fsN f + rcN f) % 32) fi, fs, rc, mh)) :
    ∀ (m i : Nat) (fs rc mh : Nat → Int32), i ≤ T → T - i < m → (∀ t, t < 4 → fs t = nI (ps_f1 i f fsN t)) → (∀ t, t < 4 → rc t = nI (ps_rp i f rcN t)) → (∀ t, t < i → t ≠ f → mh t = rs (t * 32 + fsN t)) → (∀ t, t < i → t = f → mh t = -1) → wX_mergeFirstRuns_2 post m (nI i) (nI T) wS rL sg rC gR hd lW lv (nI f) ur cR K V N nx ws fo pr rs fs rc mh := by
  intro m
  induction m with
  | zero => intro i fs rc mh _ h; omega
  | succ m ih =>
    intro i fs rc mh hi hm2 hfs hrc hmh hmhf
    refine ps_if (d := T ≤ i) (nI_leI (by omega) (by omega)) (fun q => ?_) (fun q => ?_)
    · have e : i = T := by omega
      subst e
      refine px_mc T4 hU hn (fun t ht => ?_) (fun fi nx' mh' a b c => ?_)
      · by_cases e : t = f
        · rw [hmhf t ht e, e]; exact ps_mi_0 hmf
        · rw [hmh t ht e]; exact hm t ht e
      · have e1 : fs f = nI (fsN f) := by rw [hfs f (by omega)]; unfold ps_f1; rw [if_neg (by omega)]
        have e2 : rc f = nI (rcN f) := by rw [hrc f (by omega)]; unfold ps_rp; rw [if_neg (by omega)]
        refine px_ap (by omega) e1 e2 (h32 f (by omega)) (by have := hr f (by omega); omega) ?_
        refine hp fi nx' fs _ mh' hfs (fun t ht => ?_) a b c
        by_cases e : t = f
        · rw [e, pk_us]; unfold ps_r1; rw [if_pos rfl]
        · rw [pk_un e, hrc t ht]
          unfold ps_rp ps_r1
          by_cases g : t < i
          · rw [if_pos ⟨g, e⟩, if_neg e, if_pos g]
          · rw [if_neg (fun z => g z.1), if_neg e, if_neg g]
    · have iT : i < T := by omega
      have ei : (nI i).toNatClampNeg = i := nI_clamp (by omega)
      have ii : vp_in (nI i) 4 := vp_in_nI (by omega) (by decide)
      refine ps_if (d := i = f) (nI_eq (by omega) (by omega)) (fun z => ?_) (fun z => ?_)
      · refine And.intro ii (nm_r (e' := upd mh i (-1)) (by rw [ei]) (nm_r (nI_1 i) (ih (i + 1) fs rc (upd mh i (-1)) (by omega) (by omega) (fun t ht => ?_) (fun t ht => ?_) (fun t ht tf => ?_) (fun t ht tf => ?_))))
        · rw [hfs t ht]
          unfold ps_f1
          by_cases g : t < i ∧ t ≠ f
          · rw [if_pos g, if_pos ⟨by omega, g.2⟩]
          · rw [if_neg g, if_neg (by omega)]
        · rw [hrc t ht]
          unfold ps_rp
          by_cases g : t < i ∧ t ≠ f
          · rw [if_pos g, if_pos ⟨by omega, g.2⟩]
          · rw [if_neg g, if_neg (by omega)]
        · rw [pk_un (by omega)]; exact hmh t (by omega) tf
        · by_cases g : t = i
          · rw [g, pk_us]
          · rw [pk_un g]; exact hmhf t (by omega) tf
      · have e1 : fs i = nI (fsN i) := by rw [hfs i (by omega)]; unfold ps_f1; rw [if_neg (by omega)]
        have e2 : rc i = nI (rcN i) := by rw [hrc i (by omega)]; unfold ps_rp; rw [if_neg (by omega)]
        refine px_tk (by omega) e1 e2 (h32 i (by omega)) (h1 i iT z) ?_
        refine And.intro ii (nm_r (e' := upd mh i (rs (i * 32 + fsN i))) (by rw [ei]) (nm_r (nI_1 i) (ih (i + 1) _ _ (upd mh i (rs (i * 32 + fsN i))) (by omega) (by omega) (fun t ht => ?_) (fun t ht => ?_) (fun t ht tf => ?_) (fun t ht tf => ?_))))
        · by_cases g : t = i
          · rw [g, pk_us]; unfold ps_f1; rw [if_pos ⟨by omega, z⟩]
          · rw [pk_un g, hfs t ht]
            unfold ps_f1
            by_cases y : t < i ∧ t ≠ f
            · rw [if_pos y, if_pos ⟨by omega, y.2⟩]
            · rw [if_neg y, if_neg (by omega)]
        · by_cases g : t = i
          · rw [g, pk_us]; unfold ps_rp; rw [if_pos ⟨by omega, z⟩]
          · rw [pk_un g, hrc t ht]
            unfold ps_rp
            by_cases y : t < i ∧ t ≠ f
            · rw [if_pos y, if_pos ⟨by omega, y.2⟩]
            · rw [if_neg y, if_neg (by omega)]
        · by_cases g : t = i
          · rw [g, pk_us]
          · rw [pk_un g]; exact hmh t (by omega) tf
        · rw [pk_un (by omega)]; exact hmhf t (by omega) tf
theorem px_mf {wS rL sg rC gR hd lW lv ur cR : Int32} {K V N nx ws fo pr rs fs rc mh : Nat → Int32} {post : St2 → Prop} {T c f : Nat} {fsN rcN own : Nat → Nat} (T4 : T ≤ 4) (hc : c ≤ 64) (hf : f < T) (hfr : ∀ t, t < 4 → fs t = nI (fsN t) ∧ fsN t < 32 ∧ rc t = nI (rcN t)) (h1 : ∀ t, t < T → t ≠ f → 1 ≤ rcN t) (hr : ∀ t, t < 4 → rcN t ≤ 31)
    (O : ps_Own c (ps_L K) own (ps_live fsN rcN) nx rs)
    (hp : ∀ (own' : Nat → Nat) (nx' rs' fs' rc' mh' : Nat → Int32), (∀ t, t < 4 → fs' t = nI (ps_f1 T f fsN t)) → (∀ t, t < 4 → rc' t = nI (ps_r1 T f rcN t)) → ps_Own c (ps_L K) own' (ps_live (ps_f1 T f fsN) (ps_r1 T f rcN)) nx' rs' → post (nI T, wS, rL, sg, rC, gR, hd, lW, lv, nI f, ur, cR, K, V, N, nx', ws, fo, pr, rs', fs', rc', mh')) :
    wpX_mergeFirstRuns post (nI T, wS, rL, sg, rC, gR, hd, lW, lv, nI f, ur, cR, K, V, N, nx, ws, fo, pr, rs, fs, rc, mh) := by
  have h32 : ∀ t, t < 4 → fsN t < 32 := fun t ht => (hfr t ht).2.1
  have lv : ∀ t, t < T → t ≠ f → ps_live fsN rcN (t * 32 + fsN t) := by
    intro t ht tf
    have a := h32 t (by omega)
    have b := h1 t ht tf
    have e : (t * 32 + fsN t) / 32 = t := by omega
    refine ⟨by omega, ?_⟩
    rw [e]
    omega
  refine Exists.intro (T + 1) (px_mfl (U := fun t x => x < c ∧ t ≠ f ∧ own x = t * 32 + fsN t) T4 hf h32 h1 (fun t ht => by have := hr t ht; omega) ⟨fun t x _ h => by have := h.1; omega, fun t t' x ht ht' h h' => ?_⟩ (fun t x ht h => ?_) (fun t ht tf => ?_) (fun x h => h.2.1 rfl) (fun fi nx' fs' rc' mh' a b c2 d e => ?_) (T + 1) 0 fs rc mh (by omega) (by omega) (fun t ht => ?_) (fun t ht => ?_) (fun t h => absurd h (Nat.not_lt_zero t)) (fun t h => absurd h (Nat.not_lt_zero t)))
  · have a := h.2.2
    have b := h'.2.2
    have g1 := h32 t (by omega)
    have g2 := h32 t' (by omega)
    omega
  · refine ps_mi_c (fun y => ⟨fun z => ⟨⟨z.1, h.2.1, z.2.1.trans h.2.2⟩, z.2.2⟩, fun z => ⟨z.1.1, z.1.2.2.trans h.2.2.symm, z.2⟩⟩) (O.2.2 x h.1)
  · exact ps_mi_c (fun y => ⟨fun z => ⟨z.1, tf, z.2⟩, fun z => ⟨z.1, z.2.2⟩⟩) (O.2.1 _ (lv t ht tf))
  · obtain ⟨own', O'⟩ := ps_OwnM (Z := f * 32 + (fsN f + rcN f) % 32) (live' := ps_live (ps_f1 T f fsN) (ps_r1 T f rcN)) (Rm := fun s => ∃ t, t < T ∧ t ≠ f ∧ s = t * 32 + fsN t) (rs' := upd rs (f * 32 + (fsN f + rcN f) % 32) fi) O
      (fun x => ⟨fun ⟨t, ht, h⟩ => ⟨h.1, t, ht, h.2.1, h.2.2⟩, fun ⟨hx, t, ht, tf, ho⟩ => ⟨t, ht, hx, tf, ho⟩⟩)
      (ps_liveZ (h32 f (by omega)) (by have := hr f (by omega); omega))
      (fun s => ps_liveM T4 hf h32 (fun t ht tf => ⟨h1 t ht tf, by have := hr t (by omega); omega⟩) (by have := hr f (by omega); omega))
      (fun s hs => pk_un hs) pk_us c2 d e
    exact hp own' nx' _ fs' rc' mh' a b O'
  · rw [(hfr t ht).1]; unfold ps_f1; rw [if_neg (fun z => absurd z.1 (Nat.not_lt_zero t))]
  · rw [(hfr t ht).2.2]; unfold ps_rp; rw [if_neg (fun z => absurd z.1 (Nat.not_lt_zero t))]
end
section
/-! mergeOne and mergePhase. -/
theorem ps_cb {T n f d : Nat} {rcN : Nat → Nat} (hT : ps_T34 T) (hf : f < T) (h : ps_Rc T n f d rcN) :
    (f + T - 1) % T < T ∧ (f + T - 1) % T ≠ f ∧ rcN ((f + T - 1) % T) = ps_pa T n (T - 2) - d := by
  have lt : (f + T - 1) % T < T := Nat.mod_lt _ (by omega)
  have ne : (f + T - 1) % T ≠ f := by
    rcases hT with e | e <;> subst e <;> omega
  refine ⟨lt, ne, ?_⟩
  rw [h _ lt, if_neg ne]
  have e : ((f + T - 1) % T + T - f - 1) % T = T - 2 := by
    rcases hT with e | e <;> subst e <;> omega
  rw [e]
theorem ps_ci {T f t : Nat} (hT : ps_T34 T) (hf : f < T) (ht : t < T) (tf : t ≠ f) : (t + T - f - 1) % T + 1 < T := by
  rcases hT with e | e <;> subst e <;> omega
theorem ps_Rc0 {T f : Nat} {rc : Nat → Nat} (hT : ps_T34 T) (hf : f < T) (h : ps_Rc T 0 ((f + T - 1) % T) 0 rc) : rc f = 1 ∧ ∀ t, t < T → t ≠ f → rc t = 0 := by
  have p0 : ps_pa T 0 0 = 1 := rfl
  refine ⟨?_, fun t ht tf => ?_⟩
  · rw [h f hf]
    have ne : ¬ f = (f + T - 1) % T := by
      rcases hT with e | e <;> subst e <;> omega
    have e : (f + T - (f + T - 1) % T - 1) % T = 0 := by
      rcases hT with e | e <;> subst e <;> omega
    rw [if_neg ne, e, p0]
  · rw [h t ht]
    by_cases q : t = (f + T - 1) % T
    · rw [if_pos q]
    · rw [if_neg q]
      have e : ¬ (t + T - (f + T - 1) % T - 1) % T = 0 := by
        rcases hT with e | e <;> subst e <;> omega
      have p : ps_pa T 0 ((t + T - (f + T - 1) % T - 1) % T) = 0 := if_neg e
      rw [p]
/-! the reference's step -/
def ps_hu (f : Nat) (hl : Nat → Int32) : Nat → (Nat → Int32)
  | 0 => hl
  | i + 1 => upd (ps_hu f hl i) i (if i = f then ps_hu f hl i i + 1 else ps_hu f hl i i - 1)
theorem ps_hu_s (f : Nat) (hl : Nat → Int32) (i : Nat) : ps_hu f hl (i + 1) = upd (ps_hu f hl i) i (if i = f then ps_hu f hl i i + 1 else ps_hu f hl i i - 1) := rfl
theorem ps_hu_v (f : Nat) (hl : Nat → Int32) : ∀ i t, (t < i → ps_hu f hl i t = if t = f then hl t + 1 else hl t - 1) ∧ (i ≤ t → ps_hu f hl i t = hl t) := by
  intro i
  induction i with
  | zero => intro t; exact ⟨fun h => absurd h (Nat.not_lt_zero t), fun _ => rfl⟩
  | succ i ih =>
    intro t
    rw [ps_hu_s]
    refine ⟨fun h => ?_, fun h => ?_⟩
    · by_cases e : t = i
      · rw [e, pk_us, (ih i).2 (Nat.le_refl i)]
      · rw [pk_un e]; exact (ih t).1 (by omega)
    · rw [pk_un (by omega)]; exact (ih t).2 (by omega)
/-! the component's step -/
theorem px_mo {wS rL rC gR hd lW ur cR : Int32} {K V N nx ws fo pr rs fs rc mh : Nat → Int32} {post : Int32 → St2 → Prop} {T c n f s : Nat} {fsN rcN own : Nat → Nat} (hT : ps_T34 T) (hc : c ≤ 64) (hf : f < T) (n1 : 1 ≤ n) (n2 : n < 1000) (hfr : ∀ t, t < 4 → fs t = nI (fsN t) ∧ fsN t < 32 ∧ rc t = nI (rcN t)) (h1 : ∀ t, t < T → t ≠ f → 1 ≤ rcN t) (hr : ∀ t, t < 4 → rcN t ≤ 31)
    (O : ps_Own c (ps_L K) own (ps_live fsN rcN) nx rs) (hs : ps_r1 T f rcN ((f + T - 1) % T) = s)
    (hp : ∀ (own' : Nat → Nat) (nx' rs' fs' rc' mh' : Nat → Int32), (∀ t, t < 4 → fs' t = nI (ps_f1 T f fsN t)) → (∀ t, t < 4 → rc' t = nI (ps_r1 T f rcN t)) → ps_Own c (ps_L K) own' (ps_live (ps_f1 T f fsN) (ps_r1 T f rcN)) nx' rs' →
      (1 ≤ s → post 0 (nI T, wS, rL, 1, rC, gR, hd, lW, nI n, nI f, ur, cR, K, V, N, nx', ws, fo, pr, rs', fs', rc', mh')) ∧ (s = 0 → n = 1 → post 5 (nI T, wS, rL, 2, rC, gR, hd, lW, nI (n - 1), nI f, rs' (f * 32 + ps_f1 T f fsN f), -1, K, V, N, nx', ws, fo, pr, rs', fs', rc', mh')) ∧ (s = 0 → 2 ≤ n → post 4 (nI T, wS, rL, 1, rC, gR, hd, lW, nI (n - 1), nI ((f + T - 1) % T), ur, cR, K, V, N, nx', ws, fo, pr, rs', fs', rc', mh'))) :
    wpX_mergeOne post (nI T, wS, rL, 1, rC, gR, hd, lW, nI n, nI f, ur, cR, K, V, N, nx, ws, fo, pr, rs, fs, rc, mh) := by
  have t4 := ps_T4 hT
  refine br_t rfl ?_
  refine px_mf (by omega) hc hf hfr h1 hr O (fun own' nx' rs' fs' rc' mh' a b O' => ?_)
  obtain ⟨g0, g5, g4⟩ := hp own' nx' rs' fs' rc' mh' a b O'
  have hb : (f + T - 1) % T < T := Nat.mod_lt _ (by omega)
  have f1 : ps_f1 T f fsN f = fsN f := by unfold ps_f1; rw [if_neg (by omega)]
  have f32 : fsN f < 32 := (hfr f (by omega)).2.1
  have e1 : (nI f + nI T) - 1 = nI (f + T - 1) := by rw [nI_add, ps_p1 (by omega)]
  have sb : s ≤ 32 := by
    rw [← hs]
    unfold ps_r1
    have := hr ((f + T - 1) % T) (by omega)
    split
    · omega
    · omega
  refine And.intro (nI_ne0 (by omega) (by omega)) (nm_r (e' := nI ((f + T - 1) % T)) (by rw [e1]; exact pk_rem (by omega) (by omega) (by omega)) ?_)
  have eb : (nI ((f + T - 1) % T)).toNatClampNeg = (f + T - 1) % T := nI_clamp (by omega)
  refine And.intro (vp_in_nI (by omega) (by decide)) (ps_if (d := s ≤ 0) (by rw [eb, b _ (by omega), hs]; exact nI_leI (b := 0) (by omega) (by omega)) (fun z => ?_) (fun z => g0 (by omega)))
  refine nm_r (ps_p1 n1) (ps_if (d := n - 1 = 0) (nI_eq (b := 0) (by omega) (by omega)) (fun y => ?_) (fun y => g4 (by omega) (by omega)))
  exact px_es (by omega) (a f (by omega)) (by rw [f1]; exact f32) (g5 (by omega) (by omega))
def px_MP (post : Int32 → St2 → Prop) (n : Nat) (r x : Int32) (u : St2) : Prop := match u with
  | (tT, wS, rL, sg, rC, gR, hd, lW, lv, oN, ur, cR, K, V, N, nx, ws, fo, pr, rs, fs, rc, mh) => wX_mergePhase_7 post n r x tT wS rL sg rC gR hd lW lv oN ur cR K V N nx ws fo pr rs fs rc mh
end
section
/-! readFrom: at most 65 reads on either side, in step -/
def px_RF (post : Int32 → St2 → Prop) (x1 : Int32) (n : Nat) (r x : Int32) (u : St2) : Prop := match u with
  | (tT, wS, rL, sg, rC, gR, hd, lW, lv, oN, ur, cR, K, V, N, nx, ws, fo, pr, rs, fs, rc, mh) => wX_readFrom_7 post x1 n r x tT wS rL sg rC gR hd lW lv oN ur cR K V N nx ws fo pr rs fs rc mh
end
section
/-! pasted from the kit's rows (BITS): ts_nf ts_nt ts_bit, wb_tb wb_inj wb_c wb_cu wb_sm wb_shl, u_tn -/
theorem ts_nf {x : Bool} (h : ¬ x = false) : x = true := by cases x <;> first | rfl | exact absurd rfl h
theorem ts_nt {x : Bool} (h : ¬ x = true) : x = false := by cases x <;> first | rfl | exact absurd rfl h
theorem ts_bit {w : Int64} {s : UInt64} {j : Nat} (hj : j < 64) (hs : s.toNat = j) : ((w.toUInt64 >>> s).toInt64 &&& 1) = 0 ↔ w.toBitVec.getLsbD j = false := by
  have e : (w.toUInt64 >>> s).toInt64.toBitVec = w.toBitVec >>> j := by
    apply BitVec.eq_of_toNat_eq
    show (w.toUInt64 >>> s).toNat = _
    rw [UInt64.toNat_shiftRight, hs, Nat.mod_eq_of_lt hj, BitVec.toNat_ushiftRight]
    rfl
  rw [← Int64.toBitVec_inj, Int64.toBitVec_and, e]
  show w.toBitVec >>> j &&& 1#64 = 0#64 ↔ _
  constructor
  · intro h
    have t := congrArg (fun x => x.getLsbD 0) h
    simpa using t
  · intro h
    apply BitVec.eq_of_getLsbD_eq
    intro i hi
    cases i with
    | zero => simp [h]
    | succ i => simp
theorem wb_tb (n : Nat) : (lN n).toBitVec = BitVec.ofNat 64 n := rfl
theorem wb_inj {a b : Int64} (h : a.toBitVec = b.toBitVec) : a = b := Int64.toBitVec_inj.mp h
theorem wb_c : ∀ k, k < 64 → ((nI k).toInt64 &&& 63) = lN k := by decide +kernel
theorem wb_cu : ∀ k, k < 64 → ((nI k).toInt64.toUInt64 &&& Int64.toUInt64 63) = UInt64.ofNat k := by decide +kernel
theorem wb_sm : ∀ k, k < 64 → (BitVec.ofNat 64 k).smod 64 = BitVec.ofNat 64 k := by decide +kernel
theorem wb_shl (n : Nat) {k : Nat} (hk : k < 64) : lN n <<< ((nI k).toInt64 &&& 63) = lN (n * 2 ^ k) := by
  rw [wb_c k hk]
  apply wb_inj
  rw [Int64.toBitVec_shiftLeft, wb_tb, wb_tb, wb_tb, wb_sm k hk]
  apply BitVec.eq_of_toNat_eq
  rw [BitVec.shiftLeft_eq', BitVec.toNat_shiftLeft, BitVec.toNat_ofNat, BitVec.toNat_ofNat, BitVec.toNat_ofNat, Nat.mod_eq_of_lt (show k < 2 ^ 64 by omega), Nat.shiftLeft_eq, Nat.mul_mod, Nat.mod_mod, ← Nat.mul_mod]
theorem u_tn {n : Nat} (h : n < 2 ^ 64) : (UInt64.ofNat n).toNat = n := Nat.mod_eq_of_lt h
end
section
/-! counting and order, for the law's reads -/
theorem qs_same {P Q : Nat → Prop} : ∀ n, (∀ x, x < n → (P x ↔ Q x)) → ps_nP P n = ps_nP Q n := by
  intro n
  induction n with
  | zero => intro _; rfl
  | succ n ih =>
    intro h
    unfold ps_nP
    have i := ih (fun x hx => h x (by omega))
    by_cases p : P n
    · rw [if_pos p, if_pos ((h n (by omega)).1 p), i]
    · rw [if_neg p, if_neg (fun z => p ((h n (by omega)).2 z)), i]
theorem qs_rm {P Q : Nat → Prop} {r : Nat} (h : ∀ x, Q x ↔ (P x ∧ x ≠ r)) (p : P r) : ∀ n, r < n → ps_nP P n = ps_nP Q n + 1 := by
  intro n
  induction n with
  | zero => intro hr; omega
  | succ n ih =>
    intro hr
    unfold ps_nP
    by_cases e : r = n
    · subst e
      have m := qs_same (P := P) (Q := Q) r (fun x hx => ⟨fun z => (h x).2 ⟨z, by omega⟩, fun z => ((h x).1 z).1⟩)
      rw [if_pos p, if_neg (fun z => ((h r).1 z).2 rfl), m]
    · have i := ih (by omega)
      by_cases q : P n
      · rw [if_pos q, if_pos ((h n).2 ⟨q, fun z => e z.symm⟩)]; omega
      · rw [if_neg q, if_neg (fun z => q ((h n).1 z).1)]; omega
theorem qs_all {P : Nat → Prop} {c : Nat} (h : ∀ x, P x ↔ x < c) : ∀ n, ps_nP P n = min n c := by
  intro n
  induction n with
  | zero => show 0 = min 0 c; omega
  | succ n ih =>
    unfold ps_nP
    by_cases p : P n
    · have := (h n).1 p
      rw [if_pos p, ih]; omega
    · have : ¬ n < c := fun z => p ((h n).2 z)
      rw [if_neg p, ih]; omega
theorem qs_pos {P : Nat → Prop} {n x : Nat} (hx : x < n) (p : P x) : 1 ≤ ps_nP P n := by
  by_cases e : ps_nP P n = 0
  · exact absurd p (ps_nP_0 n e x hx)
  · omega
/-- behind the record just read stand those that stood behind the one before, but for itself -/
theorem qs_aft {K : Nat → Int32} {c b : Nat} {la : Int32} (hc : c ≤ 64) (hb : ps_mi (ps_L K) (ps_aft K c la) (nI b)) (bc : b < c) : ps_aft K c la b ∧ ∀ x, ps_aft K c (nI b) x ↔ (ps_aft K c la x ∧ x ≠ b) := by
  have hT := ps_L_T K
  rcases hb with ⟨e, _⟩ | ⟨b', e, pb, mb⟩
  · exact absurd e (ps_ne (by omega))
  · have b'c := pb.1
    have eb : b = b' := ps_inj (by omega) (by omega) e
    subst eb
    refine ⟨pb, fun x => ⟨fun h => ?_, fun h => ?_⟩⟩
    · obtain ⟨xc, h⟩ := h
      have lbx : ps_L K b x := by
        rcases h with h | ⟨l, lc, el, h⟩
        · exact absurd h (ps_ne (by omega))
        · have e2 : b = l := ps_inj (by omega) (by omega) el
          rw [e2]; exact h
      refine ⟨⟨xc, ?_⟩, fun z => hT.1 b (by rw [z] at lbx; exact lbx)⟩
      rcases pb.2 with q | ⟨l, lc, el, q⟩
      · exact Or.inl q
      · exact Or.inr ⟨l, lc, el, hT.2.1 _ _ _ q lbx⟩
    · obtain ⟨h, ne⟩ := h
      refine ⟨h.1, Or.inr ⟨b, bc, rfl, ?_⟩⟩
      rcases mb x h with q | q
      · exact absurd q ne
      · exact q
/-! the perfect distributions as the law reckons them; the merges that are left -/
def qs_mg (T : Nat) : Nat → Nat
  | 0 => 0
  | n + 1 => qs_mg T n + ps_pa T (n + 1) (T - 2)
theorem qs_mg3 : ∀ n, n < 8 → qs_mg 3 n ≤ 33 := by decide
theorem qs_mg4 : ∀ n, n < 7 → qs_mg 4 n ≤ 33 := by decide
theorem qs_mgb {T n : Nat} (hT : ps_T34 T) (hn : n + T ≤ 10) : qs_mg T n ≤ 33 := by
  rcases hT with e | e
  · subst e; exact qs_mg3 n (by omega)
  · subst e; exact qs_mg4 n (by omega)
end
section
/-! the component's states in the law, and its methods -/
def qs_kv (c : Nat) (ky vl K V : Nat → Int32) : Prop := ∀ x, x < c → K x = ky x ∧ V x = vl x
def qs_F (T W A c : Nat) (ky vl : Nat → Int32) (u : St2) : Prop := ∃ (R h : Nat) (rn w : Nat → Nat) (wr : Nat → Prop) (lW : Int32) (K V N nx ws fo pr rs fs rc mh ins : Nat → Int32),
  ps_Com T W A c R rn N ∧ ps_Fd W c h rn w wr K nx ws fo ins lW ∧ qs_kv c ky vl K V ∧ u = (nI T, nI W, nI A, 0, nI c, nI R, nI h, lW, -1, -1, -1, -1, K, V, N, nx, ws, fo, pr, rs, fs, rc, mh)
def qs_M (T W A c n f e : Nat) (ky vl : Nat → Int32) (u : St2) : Prop := ∃ (R d : Nat) (rn fsN rcN own : Nat → Nat) (lW : Int32) (K V N nx ws fo pr rs fs rc mh : Nat → Int32),
  ps_Com T W A c R rn N ∧ ps_Mg T c n f d e fsN rcN own K nx rs fs rc rc ∧ qs_kv c ky vl K V ∧ u = (nI T, nI W, nI A, 1, nI c, nI R, nI 0, lW, nI n, nI f, -1, -1, K, V, N, nx, ws, fo, pr, rs, fs, rc, mh)
def qs_S (T W A c f : Nat) (ky vl : Nat → Int32) (la : Int32) (u : St2) : Prop := ∃ (R p : Nat) (rn : Nat → Nat) (ur lW : Int32) (K V N nx ws fo pr rs fs rc mh : Nat → Int32),
  ps_Com T W A c R rn N ∧ ps_So T c f p la ur ky nx rs fs rc rc ∧ (rc f = 1 ∧ ∀ t, t < T → t ≠ f → rc t = 0) ∧ qs_kv c ky vl K V ∧ u = (nI T, nI W, nI A, 2, nI c, nI R, nI 0, lW, 0, nI f, ur, la, K, V, N, nx, ws, fo, pr, rs, fs, rc, mh)
/-- the order by the given keys -/
theorem qs_Lk {c : Nat} {ky vl K V : Nat → Int32} (H : qs_kv c ky vl K V) : ∀ x y, x < c → y < c → ps_L K x y → ps_L ky x y := by
  intro x y hx hy h
  unfold ps_L at *
  rw [← (H x hx).1, ← (H y hy).1]
  exact h
theorem qs_Lk' {c : Nat} {ky vl K V : Nat → Int32} (H : qs_kv c ky vl K V) : ∀ x y, x < c → y < c → ps_L ky x y → ps_L K x y := by
  intro x y hx hy h
  unfold ps_L at *
  rw [(H x hx).1, (H y hy).1]
  exact h
/-- sorted by K is sorted by the given keys -/
theorem qs_So {c s0 : Nat} {ky vl K V nx rs : Nat → Int32} (H : qs_kv c ky vl K V) (S : ps_mi (ps_L K) (fun x => x < c) (rs s0) ∧ (∀ x, x < c → ps_mi (ps_L K) (fun y => y < c ∧ ps_L K x y) (nx x))) :
    ps_mi (ps_L ky) (fun x => x < c) (rs s0) ∧ (∀ x, x < c → ps_mi (ps_L ky) (fun y => y < c ∧ ps_L ky x y) (nx x)) := by
  refine ⟨ps_mi_l (fun y => Iff.rfl) (fun x y hx hy h => qs_Lk H x y hx hy h) S.1, fun x hx => ps_mi_l (fun y => ⟨fun z => ⟨z.1, qs_Lk H x y hx z.1 z.2⟩, fun z => ⟨z.1, qs_Lk' H x y hx z.1 z.2⟩⟩) (fun a b ha hb h => qs_Lk H a b ha.1 hb.1 h) (S.2 x hx)⟩
theorem qs_put {T W A c : Nat} {ky vl : Nat → Int32} {u : St2} {post : Int32 → St2 → Prop} {k v : Int32} (I : qs_F T W A c ky vl u) (hk : k = ky c) (hv : v = vl c)
    (h0 : c < A → ∀ u', qs_F T W A (c + 1) ky vl u' → post 0 u') (h2 : c = A → post 2 u) : wpX_put post u k v := by
  obtain ⟨R, h, rn, w, wr, lW, K, V, N, nx, ws, fo, pr, rs, fs, rc, mh, ins, HC, HF, HK, rfl⟩ := I
  have hh := ps_hN HC
  have HC2 := HC
  obtain ⟨hT, w2, w8, a8, a6, ca, hN, hR⟩ := HC2
  have HF2 := HF
  obtain ⟨hW, _, F, Wk, hw, hi, hn⟩ := HF2
  have kv : qs_kv (c + 1) ky vl (upd K c k) (upd V c v) := by
    intro x hx
    by_cases e : x = c
    · rw [e, pk_us, pk_us]; exact ⟨hk, hv⟩
    · rw [pk_un e, pk_un e]; exact HK x (by omega)
  by_cases cA : c < A
  · by_cases hf : h < W
    · refine px_putF a6 w8 cA hf (by omega) (fun q => ?_) (fun q => ?_)
      · have G := ps_FdF (k := k) (V := V) HC HF cA hf (R' := R) (fun _ => rfl) (fun z => by omega)
        exact h0 cA _ ⟨R, h + 1, ps_un rn c 1, ps_un w h c, wr, lW, upd K c k, upd V c v, upd N c 1, nx, upd ws h (nI c), fo, pr, rs, fs, rc, mh, upd ins c 1, G.1, G.2, kv, rfl⟩
      · have G := ps_FdF (k := k) (V := V) HC HF cA hf (R' := 1) (fun z => by omega) (fun _ => rfl)
        exact h0 cA _ ⟨1, h + 1, ps_un rn c 1, ps_un w h c, wr, lW, upd K c k, upd V c v, upd N c 1, nx, upd ws h (nI c), fo, pr, rs, fs, rc, mh, upd ins c 1, G.1, G.2, kv, rfl⟩
    · refine px_putW (w := w) (rn := rn) (wr := wr) a6 cA (by omega) (by omega) (by omega) (by omega) F hh.2.2.2 Wk hw (fun b r R' hb hm k1 k2 r0 r1 nx' fo' F' => ?_)
      have G := ps_FdW (V := V) HC HF cA (by omega) hb hm k1 k2 r0 r1 F'
      exact h0 cA _ ⟨R', h, ps_un rn c r, ps_un w b c, fun x => wr x ∨ x = w b, nI (w b), upd K c k, upd V c v, upd N c (nI r), nx', upd ws b (nI c), fo', pr, rs, fs, rc, mh, upd (upd ins (w b) 0) c 1, G.1, G.2, kv, rfl⟩
  · exact br_t rfl (ps_if (d := c < A) (nI_ltI (by omega) (by omega)) (fun q => absurd q cA) (fun _ => h2 (by omega)))
/-! wrong stages -/
theorem qs_putM {T W A c n f e : Nat} {ky vl : Nat → Int32} {u : St2} {post : Int32 → St2 → Prop} {k v : Int32} (I : qs_M T W A c n f e ky vl u) (h : post 1 u) : wpX_put post u k v := by
  obtain ⟨R, d, rn, fsN, rcN, own, lW, K, V, N, nx, ws, fo, pr, rs, fs, rc, mh, HC, HM, HK, rfl⟩ := I
  exact br_f (by decide) h
theorem qs_readM {T W A c n f e : Nat} {ky vl : Nat → Int32} {u : St2} {post : Int32 → St2 → Prop} (I : qs_M T W A c n f e ky vl u) (h : post 1 u) : wpX_read post u := by
  obtain ⟨R, d, rn, fsN, rcN, own, lW, K, V, N, nx, ws, fo, pr, rs, fs, rc, mh, HC, HM, HK, rfl⟩ := I
  exact br_f (by decide) h
theorem qs_rewM {T W A c n f e : Nat} {ky vl : Nat → Int32} {u : St2} {post : Int32 → St2 → Prop} (I : qs_M T W A c n f e ky vl u) (h : post 1 u) : wpX_rewind post u := by
  obtain ⟨R, d, rn, fsN, rcN, own, lW, K, V, N, nx, ws, fo, pr, rs, fs, rc, mh, HC, HM, HK, rfl⟩ := I
  exact br_f (by decide) h
theorem qs_readF {T W A c : Nat} {ky vl : Nat → Int32} {u : St2} {post : Int32 → St2 → Prop} (I : qs_F T W A c ky vl u) (h : post 1 u) : wpX_read post u := by
  obtain ⟨R, hx, rn, w, wr, lW, K, V, N, nx, ws, fo, pr, rs, fs, rc, mh, ins, HC, HF, HK, rfl⟩ := I
  exact br_f (by decide) h
theorem qs_rewF {T W A c : Nat} {ky vl : Nat → Int32} {u : St2} {post : Int32 → St2 → Prop} (I : qs_F T W A c ky vl u) (h : post 1 u) : wpX_rewind post u := by
  obtain ⟨R, hx, rn, w, wr, lW, K, V, N, nx, ws, fo, pr, rs, fs, rc, mh, ins, HC, HF, HK, rfl⟩ := I
  exact br_f (by decide) h
/-! the level, the output tape, the counts -/
theorem qs_levF {T W A c : Nat} {ky vl : Nat → Int32} {u : St2} {post : Int32 → Prop} (I : qs_F T W A c ky vl u) (h : post (-1)) : wpX_level post u := by
  obtain ⟨R, hx, rn, w, wr, lW, K, V, N, nx, ws, fo, pr, rs, fs, rc, mh, ins, HC, HF, HK, rfl⟩ := I
  exact h
theorem qs_levM {T W A c n f e : Nat} {ky vl : Nat → Int32} {u : St2} {post : Int32 → Prop} (I : qs_M T W A c n f e ky vl u) (h : post (nI n)) : wpX_level post u := by
  obtain ⟨R, d, rn, fsN, rcN, own, lW, K, V, N, nx, ws, fo, pr, rs, fs, rc, mh, HC, HM, HK, rfl⟩ := I
  exact h
theorem qs_levS {T W A c f : Nat} {ky vl : Nat → Int32} {la : Int32} {u : St2} {post : Int32 → Prop} (I : qs_S T W A c f ky vl la u) (h : post 0) : wpX_level post u := by
  obtain ⟨R, p, rn, ur, lW, K, V, N, nx, ws, fo, pr, rs, fs, rc, mh, HC, HS, Hr, HK, rfl⟩ := I
  exact h
theorem qs_outM {T W A c n f e : Nat} {ky vl : Nat → Int32} {u : St2} {post : Int32 → Prop} (I : qs_M T W A c n f e ky vl u) (h : post (nI f)) : wpX_outputTape post u := by
  obtain ⟨R, d, rn, fsN, rcN, own, lW, K, V, N, nx, ws, fo, pr, rs, fs, rc, mh, HC, HM, HK, rfl⟩ := I
  exact h
theorem qs_outS {T W A c f : Nat} {ky vl : Nat → Int32} {la : Int32} {u : St2} {post : Int32 → Prop} (I : qs_S T W A c f ky vl la u) (h : post (nI f)) : wpX_outputTape post u := by
  obtain ⟨R, p, rn, ur, lW, K, V, N, nx, ws, fo, pr, rs, fs, rc, mh, HC, HS, Hr, HK, rfl⟩ := I
  exact h
theorem qs_cntS {T W A c f : Nat} {ky vl : Nat → Int32} {la : Int32} {u : St2} {post : Int32 → Prop} (I : qs_S T W A c f ky vl la u) (h : post (nI c)) : wpX_count post u := by
  obtain ⟨R, p, rn, ur, lW, K, V, N, nx, ws, fo, pr, rs, fs, rc, mh, HC, HS, Hr, HK, rfl⟩ := I
  exact h
theorem qs_ro {wS rL sg rC gR hd lW lv oN ur cR : Int32} {K V N nx ws fo pr rs fs rc mh : Nat → Int32} {post : Int32 → Prop} {T j : Nat} (hT : ps_T34 T) (hs : ¬ sg = 0) (hj : j < T) (h : post (rc j)) : wpX_runsOn post (nI T, wS, rL, sg, rC, gR, hd, lW, lv, oN, ur, cR, K, V, N, nx, ws, fo, pr, rs, fs, rc, mh) (nI j) := by
  have t4 := ps_T4 hT
  refine br_f hs (br_f (nI_pos (by omega)) (br_t (nI_lt hj (by omega)) (And.intro (vp_in_nI (by omega) (by decide)) ?_)))
  rw [nI_clamp (by omega)]; exact h
theorem qs_roS {T W A c f j : Nat} {ky vl : Nat → Int32} {la : Int32} {u : St2} {post : Int32 → Prop} (I : qs_S T W A c f ky vl la u) (hj : j < T) (h1 : j = f → post 1) (h0 : j ≠ f → post 0) : wpX_runsOn post u (nI j) := by
  obtain ⟨R, p, rn, ur, lW, K, V, N, nx, ws, fo, pr, rs, fs, rc, mh, HC, HS, Hr, HK, rfl⟩ := I
  refine qs_ro HC.1 (by decide) hj ?_
  by_cases e : j = f
  · rw [e, Hr.1]; exact h1 e
  · rw [Hr.2 j hj e]; exact h0 e
/-- the counts when no merge of the phase is done -/
theorem qs_roM {T W A c n f j : Nat} {ky vl : Nat → Int32} {u : St2} {post : Int32 → Prop} (I : qs_M T W A c n f (ps_pa T n (T - 2)) ky vl u) (hj : j < T) (h : post (nI (if j = f then 0 else ps_pa T n ((j + T - f - 1) % T)))) : wpX_runsOn post u (nI j) := by
  obtain ⟨R, d, rn, fsN, rcN, own, lW, K, V, N, nx, ws, fo, pr, rs, fs, rc, mh, HC, HM, HK, rfl⟩ := I
  refine qs_ro HC.1 (by decide) hj ?_
  obtain ⟨n1, nT, hf, ⟨he, e1⟩, hRc, hz, hfr, hhl, O⟩ := HM
  have d0 : d = 0 := by omega
  subst d0
  rw [hhl j hj, hRc j hj]
  exact h
end
section
/-! finish, the merges, the reads, clear -/
theorem qs_finish {T W A c : Nat} {ky vl : Nat → Int32} {u : St2} {post : Int32 → St2 → Prop} (I : qs_F T W A c ky vl u)
    (h0 : ∀ n u', 1 ≤ n → n + T ≤ 10 → qs_M T W A c n (T - 1) (ps_pa T n (T - 2)) ky vl u' → post 0 u') (h5 : ∀ u', qs_S T W A c 0 ky vl (-1) u' → post 5 u') : wpX_finish post u := by
  obtain ⟨R, h, rn, w, wr, lW, K, V, N, nx, ws, fo, pr, rs, fs, rc, mh, ins, HC, HF, HK, rfl⟩ := I
  have hh := ps_hN HC
  have HC2 := HC
  obtain ⟨hT, w2, w8, a8, a6, ca, hN, hR⟩ := HC2
  obtain ⟨hW, _, F, Wk, hw, hi, hcn⟩ := HF
  have t4 := ps_T4 hT
  obtain ⟨n, hn, hR1, hR2⟩ := ps_lev hT hh.2.1
  refine br_t rfl ?_
  refine px_ew hh.1 (by omega) hh.2.2.2 F Wk hw (fun lW' nx' ws' fo' wr' al F' => ?_)
  have E := ps_FeedE F' al hR
  refine px_ch hT hh.2.1 hn hR1 hR2 (fun pr' hpr => ?_)
  refine px_di hT hn hh.2.1 hR1 hpr (fun x hx => (hR.1 x hx).1) E.1 (fun sl rcN rs' fs' rc' hfs D hrc hrp => ?_)
  have O := ps_DistE D hR.1 E.2
  have en : (nI n = 0 ↔ n = 0) := nI_eq (b := 0) (by omega) (by omega)
  refine ps_if en (fun n0 => ?_) (fun n0 => ?_)
  · subst n0
    refine px_es (f := 0) (p := 0) (by omega) (hfs 0 (by omega)) (by omega) (h5 _ ?_)
    have l0 : ps_live (fun _ => 0) rcN 0 := ⟨by omega, by rw [hrp 0 (by omega)]; exact (by decide : (0 % 32 + 32 - 0) % 32 < 1)⟩
    have l1 : ∀ s, ps_live (fun _ => 0) rcN s → s = 0 := by
      intro s hs
      obtain ⟨s1, s2⟩ := hs
      rw [hrp (s / 32) (by omega)] at s2
      by_cases e : s / 32 = 0
      · rw [e] at s2
        have : ps_pa T 0 0 = 1 := rfl
        rw [this] at s2
        have e3 : (s % 32 + 32 - 0) % 32 < 1 := s2
        omega
      · have : ps_pa T 0 (s / 32) = 0 := if_neg e
        rw [this] at s2
        exact absurd s2 (Nat.not_lt_zero _)
    have S := qs_So HK (ps_toS O l0 l1)
    refine ⟨R, 0, rn, rs' 0, lW', K, V, N, nx', ws', fo', pr', rs', fs', rc', mh, HC, ⟨by omega, by omega, hfs 0 (by omega), fun _ _ => rfl, S.1, S.2, Or.inl rfl, ?_⟩, ⟨?_, fun t ht t0 => ?_⟩, HK, rfl⟩
    · exact ps_mi_c (fun y => ⟨fun z => ⟨z, Or.inl rfl⟩, fun z => z.1⟩) S.1
    · rw [hrc 0 (by omega), hrp 0 (by omega)]; rfl
    · rw [hrc t (by omega), hrp t (by omega)]
      have : ps_pa T 0 t = 0 := if_neg t0
      rw [this]; rfl
  · have e1 : nI T - 1 = nI (T - 1) := ps_p1 (by omega)
    refine nm_r e1 (h0 n _ (by omega) hn ?_)
    refine ⟨R, 0, rn, fun _ => 0, rcN, fun x => sl (rn x), lW', K, V, N, nx', ws', fo', pr', rs', fs', rc', mh, HC, ⟨by omega, hn, by omega, ⟨by omega, (ps_tt1 hT (by omega) hn).1⟩, ?_, ?_, ?_, ?_, O⟩, HK, rfl⟩
    · intro t ht
      rw [hrp t (by omega)]
      by_cases e : t = T - 1
      · rw [if_pos e, e, ps_pa_0 hT (by omega)]
      · rw [if_neg e]
        have : (t + T - (T - 1) - 1) % T = t := by
          have e2 : t + T - (T - 1) - 1 = t := by omega
          rw [e2]; exact Nat.mod_eq_of_lt ht
        rw [this]; omega
    · intro t tT ht4; rw [hrp t ht4, ps_pa_0 hT (by omega)]
    · intro t ht; exact ⟨hfs t ht, by show 0 < 32; omega, hrc t ht⟩
    · intro t ht; exact hrc t (by omega)
theorem qs_mo {T W A c n f e : Nat} {ky vl : Nat → Int32} {u : St2} (I : qs_M T W A c n f e ky vl u) : e ≤ 24 ∧ 1 ≤ e ∧ 1 ≤ n ∧ n + T ≤ 10 ∧ f < T ∧ ps_T34 T ∧ ∀ post : Int32 → St2 → Prop,
    (∀ u', qs_M T W A c n f (e - 1) ky vl u' → 2 ≤ e → post 0 u') → (∀ u', e = 1 → 2 ≤ n → qs_M T W A c (n - 1) ((f + T - 1) % T) (ps_pa T (n - 1) (T - 2)) ky vl u' → post 4 u') → (∀ u', e = 1 → n = 1 → qs_S T W A c f ky vl (-1) u' → post 5 u') → wpX_mergeOne post u := by
  obtain ⟨R, d, rn, fsN, rcN, own, lW, K, V, N, nx, ws, fo, pr, rs, fs, rc, mh, HC, HM, HK, rfl⟩ := I
  have hh := ps_hN HC
  have hT := HC.1
  have t4 := ps_T4 hT
  obtain ⟨n1, nT, hf, ⟨he, e1⟩, hRc, hz, hfr, hhl, O⟩ := HM
  have pab := ps_pab hT nT (T - 2)
  have cb := ps_cb hT hf hRc
  have tt := ps_tt1 hT n1 nT
  have h1 : ∀ t, t < T → t ≠ f → 1 ≤ rcN t := by
    intro t ht tf
    have a := ps_ci hT hf ht tf
    have b := tt.2 _ a
    rw [hRc t ht, if_neg tf]
    omega
  have hr : ∀ t, t < 4 → rcN t ≤ 31 := by
    intro t ht
    by_cases g : t < T
    · have a := ps_pab hT nT ((t + T - f - 1) % T)
      rw [hRc t g]
      split <;> omega
    · rw [hz t (by omega) ht]; omega
  have hs : ps_r1 T f rcN ((f + T - 1) % T) = e - 1 := by
    unfold ps_r1
    rw [if_neg cb.2.1, if_pos cb.1, cb.2.2]
    omega
  have hRc' : ps_Rc T n f (d + 1) (ps_r1 T f rcN) := by
    refine ps_RcM hf hRc (fun t ht => ?_)
    unfold ps_r1
    by_cases g : t = f
    · rw [if_pos g, if_pos g]
    · rw [if_neg g, if_neg g, if_pos ht]
  have hz' : ∀ t, T ≤ t → t < 4 → ps_r1 T f rcN t = 0 := by
    intro t tT ht
    unfold ps_r1
    rw [if_neg (by omega), if_neg (by omega)]
    exact hz t tT ht
  have f1 : ∀ t, t < 4 → ps_f1 T f fsN t < 32 := by
    intro t ht
    unfold ps_f1
    have := (hfr t ht).2.1
    split <;> omega
  refine ⟨by omega, e1, n1, nT, hf, hT, fun post p0 p4 p5 => ?_⟩
  refine px_mo hT hh.1 hf n1 (by omega) hfr h1 hr O hs (fun own' nx' rs' fs' rc' mh' a b O' => ⟨fun z => ?_, fun z z1 => ?_, fun z z1 => ?_⟩)
  · exact p0 _ ⟨R, d + 1, rn, ps_f1 T f fsN, ps_r1 T f rcN, own', lW, K, V, N, nx', ws, fo, pr, rs', fs', rc', mh', HC, ⟨n1, nT, hf, ⟨by omega, by omega⟩, hRc', hz', fun t ht => ⟨a t ht, f1 t ht, b t ht⟩, fun t ht => b t (by omega), O'⟩, HK, rfl⟩ (by omega)
  · subst z1
    have ed : d + 1 = ps_pa T 1 (T - 2) := by omega
    have hRcP : ps_Rc T 0 ((f + T - 1) % T) 0 (ps_r1 T f rcN) := ps_RcP hT nT hf (ed ▸ hRc')
    refine p5 _ (by omega) rfl ?_
    have r0 := ps_Rc0 hT hf hRcP
    have ff := f1 f (by omega)
    have l0 : ps_live (ps_f1 T f fsN) (ps_r1 T f rcN) (f * 32 + ps_f1 T f fsN f) := by
      have g : (f * 32 + ps_f1 T f fsN f) / 32 = f := by omega
      refine ⟨by omega, ?_⟩
      rw [g, r0.1]
      omega
    have l1 : ∀ s, ps_live (ps_f1 T f fsN) (ps_r1 T f rcN) s → s = f * 32 + ps_f1 T f fsN f := by
      intro s hs2
      obtain ⟨s1, s2⟩ := hs2
      by_cases g : s / 32 = f
      · rw [g, r0.1] at s2
        omega
      · exfalso
        by_cases y : s / 32 < T
        · rw [r0.2 _ y g] at s2; exact absurd s2 (Nat.not_lt_zero _)
        · rw [hz' _ (by omega) (by omega)] at s2; exact absurd s2 (Nat.not_lt_zero _)
    have S := qs_So HK (ps_toS O' l0 l1)
    refine ⟨R, ps_f1 T f fsN f, rn, rs' (f * 32 + ps_f1 T f fsN f), lW, K, V, N, nx', ws, fo, pr, rs', fs', rc', mh', HC, ⟨hf, ff, a f (by omega), fun _ _ => rfl, S.1, S.2, Or.inl rfl, ?_⟩, ⟨?_, fun t ht tf => ?_⟩, HK, rfl⟩
    · exact ps_mi_c (fun y => ⟨fun z => ⟨z, Or.inl rfl⟩, fun z => z.1⟩) S.1
    · rw [b f (by omega), r0.1]; rfl
    · rw [b t (by omega), r0.2 t ht tf]; rfl
  · obtain ⟨n', rfl⟩ : ∃ n', n = n' + 1 := ⟨n - 1, by omega⟩
    have ed : d + 1 = ps_pa T (n' + 1) (T - 2) := by omega
    have hRcP : ps_Rc T n' ((f + T - 1) % T) 0 (ps_r1 T f rcN) := ps_RcP hT nT hf (ed ▸ hRc')
    refine p4 _ (by omega) z1 ?_
    exact ⟨R, 0, rn, ps_f1 T f fsN, ps_r1 T f rcN, own', lW, K, V, N, nx', ws, fo, pr, rs', fs', rc', mh', HC, ⟨by omega, by omega, cb.1, ⟨by show ps_pa T n' (T - 2) = 0 + ps_pa T n' (T - 2); omega, (ps_tt1 hT (by omega) (by omega)).1⟩, hRcP, hz', fun t ht => ⟨a t ht, f1 t ht, b t ht⟩, fun t ht => b t (by omega), O'⟩, HK, rfl⟩
theorem qs_mpl {T W A c n f : Nat} {ky vl : Nat → Int32} {post : Int32 → St2 → Prop}
    (h4 : ∀ u', 2 ≤ n → qs_M T W A c (n - 1) ((f + T - 1) % T) (ps_pa T (n - 1) (T - 2)) ky vl u' → post 4 u') (h5 : ∀ u', n = 1 → qs_S T W A c f ky vl (-1) u' → post 5 u') :
    ∀ (m i : Nat) (r : Int32) (u : St2), 32 - i < m → i ≤ 32 → ((r = 0 ∧ ∃ e, qs_M T W A c n f e ky vl u ∧ e + i ≤ 23) ∨ (¬ r = 0 ∧ post r u)) → px_MP post m r (nI i) u := by
  intro m
  induction m with
  | zero => intro i r u h; omega
  | succ m ih =>
    intro i r u hm hi Q
    rcases Q with ⟨r0, e, I, ei⟩ | ⟨r0, P⟩
    · have S := qs_mo I
      obtain ⟨tT, wS, rL, sg, rC, gR, hd, lW, lv, oN, ur, cR, K, V, N, nx, ws, fo, pr, rs, fs, rc, mh⟩ := u
      refine br_f (nI_ge (b := 32) (by omega) (by decide)) (br_t r0 (S.2.2.2.2.2.2 _ (fun u' I' e2 => ?_) (fun u' e1 n2 I' => ?_) (fun u' e1 n1 I' => ?_)))
      · have R := ih (i + 1) 0 u' (by omega) (by omega) (Or.inl ⟨rfl, e - 1, I', by omega⟩)
        obtain ⟨tT', wS', rL', sg', rC', gR', hd', lW', lv', oN', ur', cR', K', V', N', nx', ws', fo', pr', rs', fs', rc', mh'⟩ := u'
        exact nm_r (nI_1 i) R
      · have R := ih (i + 1) 4 u' (by omega) (by omega) (Or.inr ⟨by decide, h4 u' n2 I'⟩)
        obtain ⟨tT', wS', rL', sg', rC', gR', hd', lW', lv', oN', ur', cR', K', V', N', nx', ws', fo', pr', rs', fs', rc', mh'⟩ := u'
        exact nm_r (nI_1 i) R
      · have R := ih (i + 1) 5 u' (by omega) (by omega) (Or.inr ⟨by decide, h5 u' n1 I'⟩)
        obtain ⟨tT', wS', rL', sg', rC', gR', hd', lW', lv', oN', ur', cR', K', V', N', nx', ws', fo', pr', rs', fs', rc', mh'⟩ := u'
        exact nm_r (nI_1 i) R
    · obtain ⟨tT, wS, rL, sg, rC, gR, hd, lW, lv, oN, ur, cR, K, V, N, nx, ws, fo, pr, rs, fs, rc, mh⟩ := u
      exact br_c (fun _ => P) (fun _ => br_f r0 P)
theorem qs_mp {T W A c n f e : Nat} {ky vl : Nat → Int32} {u : St2} {post : Int32 → St2 → Prop} (I : qs_M T W A c n f e ky vl u)
    (h4 : ∀ u', 2 ≤ n → qs_M T W A c (n - 1) ((f + T - 1) % T) (ps_pa T (n - 1) (T - 2)) ky vl u' → post 4 u') (h5 : ∀ u', n = 1 → qs_S T W A c f ky vl (-1) u' → post 5 u') : wpX_mergePhase post u := by
  have S := qs_mo I
  have G : ∀ (r : Int32) (u' : St2), ((r = 0 ∧ ∃ e, qs_M T W A c n f e ky vl u' ∧ e + 0 ≤ 23) ∨ (¬ r = 0 ∧ post r u')) → px_MP post 33 r (nI 0) u' := fun r u' h => qs_mpl h4 h5 33 0 r u' (by omega) (by omega) h
  obtain ⟨tT, wS, rL, sg, rC, gR, hd, lW, lv, oN, ur, cR, K, V, N, nx, ws, fo, pr, rs, fs, rc, mh⟩ := u
  unfold wpX_mergePhase
  refine S.2.2.2.2.2.2 _ (fun u' I' e2 => ?_) (fun u' e1 n2 I' => ?_) (fun u' e1 n1 I' => ?_)
  · have g := G 0 u' (Or.inl ⟨rfl, e - 1, I', by omega⟩)
    obtain ⟨tT', wS', rL', sg', rC', gR', hd', lW', lv', oN', ur', cR', K', V', N', nx', ws', fo', pr', rs', fs', rc', mh'⟩ := u'
    exact Exists.intro 33 g
  · have g := G 4 u' (Or.inr ⟨by decide, h4 u' n2 I'⟩)
    obtain ⟨tT', wS', rL', sg', rC', gR', hd', lW', lv', oN', ur', cR', K', V', N', nx', ws', fo', pr', rs', fs', rc', mh'⟩ := u'
    exact Exists.intro 33 g
  · have g := G 5 u' (Or.inr ⟨by decide, h5 u' n1 I'⟩)
    obtain ⟨tT', wS', rL', sg', rC', gR', hd', lW', lv', oN', ur', cR', K', V', N', nx', ws', fo', pr', rs', fs', rc', mh'⟩ := u'
    exact Exists.intro 33 g
theorem qs_read {T W A c f : Nat} {ky vl : Nat → Int32} {la : Int32} {u : St2} {post : Int32 → St2 → Prop} (I : qs_S T W A c f ky vl la u)
    (h3 : (∀ y, ¬ ps_aft ky c la y) → post 3 u) (h0 : ∀ b u', b < c → ps_mi (ps_L ky) (ps_aft ky c la) (nI b) → qs_S T W A c f ky vl (nI b) u' → post 0 u') : wpX_read post u := by
  obtain ⟨R, p, rn, ur, lW, K, V, N, nx, ws, fo, pr, rs, fs, rc, mh, HC, HS, Hr, HK, rfl⟩ := I
  have hh := ps_hN HC
  obtain ⟨hf, hp, hfs, hrc, hrs, hnx, hla, hur⟩ := HS
  rcases hur with ⟨eu, no⟩ | ⟨b, eb, pb, mb⟩
  · subst eu
    exact br_t rfl (br_t rfl (h3 no))
  · subst eb
    have bc := pb.1
    have e2 : (nI b).toNatClampNeg = b := nI_clamp (by omega)
    refine br_t rfl (br_f (ps_ne (by omega)) (And.intro (vp_in_nI (by omega) (by decide)) (nm_r (e' := nx b) (by rw [e2]) (h0 b _ bc (Or.inr ⟨b, rfl, pb, mb⟩) ?_))))
    refine ⟨R, p, rn, nx b, lW, K, V, N, nx, ws, fo, pr, rs, fs, rc, mh, HC, ⟨hf, hp, hfs, hrc, hrs, hnx, Or.inr ⟨b, bc, rfl⟩, ?_⟩, Hr, HK, rfl⟩
    refine ps_mi_c (fun y => ⟨fun z => ⟨z.1, Or.inr ⟨b, bc, rfl, z.2⟩⟩, fun z => ⟨z.1, ?_⟩⟩) (hnx b bc)
    rcases z.2 with w | ⟨l, lc, el, hl'⟩
    · exact absurd w (ps_ne (by omega))
    · have e := ps_inj (by omega) (by omega) el
      rw [e]; exact hl'
theorem qs_rew {T W A c f : Nat} {ky vl : Nat → Int32} {la : Int32} {u : St2} {post : Int32 → St2 → Prop} (I : qs_S T W A c f ky vl la u) (h : ∀ u', qs_S T W A c f ky vl (-1) u' → post 0 u') : wpX_rewind post u := by
  obtain ⟨R, p, rn, ur, lW, K, V, N, nx, ws, fo, pr, rs, fs, rc, mh, HC, HS, Hr, HK, rfl⟩ := I
  have t4 := ps_T4 HC.1
  obtain ⟨hf, hp, hfs, hrc, hrs, hnx, hla, hur⟩ := HS
  refine br_t rfl ?_
  unfold wpX_goToStart
  refine px_fro (by omega) hfs hp (h _ ?_)
  refine ⟨R, p, rn, rs (f * 32 + p), lW, K, V, N, nx, ws, fo, pr, rs, fs, rc, mh, HC, ⟨hf, hp, hfs, hrc, hrs, hnx, Or.inl rfl, ?_⟩, Hr, HK, rfl⟩
  exact ps_mi_c (fun y => ⟨fun z => ⟨z, Or.inl rfl⟩, fun z => z.1⟩) hrs
theorem qs_rfl {T W A c f : Nat} {ky vl : Nat → Int32} {post : Int32 → St2 → Prop} {x1 : Int32} (h : ∀ r la u', qs_S T W A c f ky vl la u' → post r u') :
    ∀ (m i : Nat) (r : Int32) (u : St2), 64 - i < m → i ≤ 64 → ((r = 0 ∧ ∃ l, l < 64 ∧ qs_S T W A c f ky vl (nI l) u) ∨ (¬ r = 0 ∧ ∃ la, qs_S T W A c f ky vl la u)) → px_RF post x1 m r (nI i) u := by
  intro m
  induction m with
  | zero => intro i r u h; omega
  | succ m ih =>
    intro i r u hm hi Q
    rcases Q with ⟨r0, l, l64, J⟩ | ⟨r0, la, J⟩
    · have P : post r u := h r _ u J
      have S := fun (post' : Int32 → St2 → Prop) => qs_read (post := post') J
      have J2 := J
      obtain ⟨R, p, rn, ur, lW, K, V, N, nx, ws, fo, pr, rs, fs, rc, mh, HC, HS, Hr, HK, rfl⟩ := J2
      have il : vp_in (nI l) 64 := vp_in_nI l64 (by decide)
      refine br_c (fun _ => P) (fun i64 => br_t r0 (And.intro il (br_c (fun _ => P) (fun _ => ?_))))
      have hi2 : i < 64 := by
        by_cases z : i < 64
        · exact z
        · exact absurd (nI_le (a := 64) (b := i) (by omega) (by omega)) i64
      refine S _ (fun _ => ?_) (fun b u' bc _ I' => ?_)
      · exact nm_r (nI_1 i) (ih (i + 1) 3 _ (by omega) (by omega) (Or.inr ⟨by decide, _, J⟩))
      · have hh := ps_hN HC
        have G := ih (i + 1) 0 u' (by omega) (by omega) (Or.inl ⟨rfl, b, by omega, I'⟩)
        obtain ⟨tT', wS', rL', sg', rC', gR', hd', lW', lv', oN', ur', cR', K', V', N', nx', ws', fo', pr', rs', fs', rc', mh'⟩ := u'
        exact nm_r (nI_1 i) G
    · have P : post r u := h r _ u J
      obtain ⟨tT, wS, rL, sg, rC, gR, hd, lW, lv, oN, ur, cR, K, V, N, nx, ws, fo, pr, rs, fs, rc, mh⟩ := u
      exact br_c (fun _ => P) (fun _ => br_f r0 P)
theorem qs_rf {T W A c f : Nat} {ky vl : Nat → Int32} {la x1 : Int32} {u : St2} {post : Int32 → St2 → Prop} (I : qs_S T W A c f ky vl la u) (h : ∀ r la u', qs_S T W A c f ky vl la u' → post r u') : wpX_readFrom post u x1 := by
  have S := fun (post' : Int32 → St2 → Prop) => qs_read (post := post') I
  have I2 := I
  obtain ⟨R, p, rn, ur, lW, K, V, N, nx, ws, fo, pr, rs, fs, rc, mh, HC, HS, Hr, HK, rfl⟩ := I2
  unfold wpX_readFrom
  refine S _ (fun _ => ?_) (fun b u' bc _ I' => ?_)
  · exact Exists.intro 65 (qs_rfl h 65 0 3 _ (by omega) (by omega) (Or.inr ⟨by decide, _, I⟩))
  · have hh := ps_hN HC
    have G := qs_rfl (x1 := x1) h 65 0 0 u' (by omega) (by omega) (Or.inl ⟨rfl, b, by omega, I'⟩)
    obtain ⟨tT', wS', rL', sg', rC', gR', hd', lW', lv', oN', ur', cR', K', V', N', nx', ws', fo', pr', rs', fs', rc', mh'⟩ := u'
    exact Exists.intro 65 G
/-- the fields of the current record -/
theorem qs_fld {T W A c f b : Nat} {ky vl : Nat → Int32} {u : St2} (I : qs_S T W A c f ky vl (nI b) u) (bc : b < c) : ∃ g : Int32, ∀ post : Int32 → Prop,
    (post (ky b) → wpX_field post u (nI b) 0 ∧ wpX_current post u 0) ∧ (post (vl b) → wpX_field post u (nI b) 1 ∧ wpX_current post u 1) ∧ (post g → wpX_field post u (nI b) 2 ∧ wpX_current post u 2) ∧ (post (nI b) → wpX_current post u 3) := by
  obtain ⟨R, p, rn, ur, lW, K, V, N, nx, ws, fo, pr, rs, fs, rc, mh, HC, HS, Hr, HK, rfl⟩ := I
  have hh := ps_hN HC
  have e2 : (nI b).toNatClampNeg = b := nI_clamp (by omega)
  have n0 : ¬ nI b < 0 := nI_pos (by omega)
  have nc : nI b < nI c := nI_lt bc (by omega)
  have no : ¬ (nI b < 0 ∨ ¬ nI b < nI c) := fun z => z.elim n0 (fun y => y nc)
  have k := HK b bc
  have a0 : ps_fa (nI c) K V N (nI b) 0 = ky b := by
    unfold ps_fa
    rw [if_neg (by decide), if_neg (by decide), if_neg no, if_pos rfl, e2]; exact k.1
  have a1 : ps_fa (nI c) K V N (nI b) 1 = vl b := by
    unfold ps_fa
    rw [if_neg (by decide), if_neg (by decide), if_neg no, if_neg (by decide), if_pos rfl, e2]; exact k.2
  have a3 : ps_fa (nI c) K V N (nI b) 3 = nI b := by
    unfold ps_fa
    rw [if_neg (by decide), if_neg (by decide), if_neg no, if_neg (by decide), if_neg (by decide), if_neg (by decide)]
  refine ⟨ps_fa (nI c) K V N (nI b) 2, fun post => ⟨fun h => ⟨px_fi hh.1 (by rw [a0]; exact h), ?_⟩, fun h => ⟨px_fi hh.1 (by rw [a1]; exact h), ?_⟩, fun h => ⟨px_fi hh.1 h, ?_⟩, fun h => ?_⟩⟩
  · unfold wpX_current; exact px_fi hh.1 (by rw [a0]; exact h)
  · unfold wpX_current; exact px_fi hh.1 (by rw [a1]; exact h)
  · unfold wpX_current; exact px_fi hh.1 h
  · unfold wpX_current; exact px_fi hh.1 (by rw [a3]; exact h)
/-! clear and the constructor -/
theorem qs_fresh {T W A : Nat} (hT : ps_T34 T) (hW : 2 ≤ W) (hW8 : W ≤ 8) (hA : 8 ≤ A) (hA6 : A ≤ 64) (ky vl : Nat → Int32) {K V N nx ws fo pr rs fs rc mh : Nat → Int32} :
    qs_F T W A 0 ky vl (nI T, nI W, nI A, 0, 0, 0, 0, -1, -1, -1, -1, -1, K, V, N, nx, ws, fo, pr, rs, fs, rc, mh) :=
  ⟨0, 0, fun _ => 0, fun _ => 0, fun _ => False, -1, K, V, N, nx, ws, fo, pr, rs, fs, rc, mh, fun _ => 0,
    ⟨hT, hW, hW8, hA, hA6, by omega, fun x h => absurd h (Nat.not_lt_zero x), ps_Rn0 _⟩,
    ⟨by omega, fun _ => ⟨rfl, rfl⟩, ps_Feed0 _ _ _ _, ps_Ws0 _ _, fun j h => absurd h (Nat.not_lt_zero j), fun x h => absurd h (Nat.not_lt_zero x), rfl⟩, fun x h => absurd h (Nat.not_lt_zero x), rfl⟩
theorem qs_clF {T W A c : Nat} {ky vl : Nat → Int32} {u : St2} {post : St2 → Prop} (I : qs_F T W A c ky vl u) (h : ∀ u', (∀ ky' vl', qs_F T W A 0 ky' vl' u') → post u') : wpX_clear post u := by
  obtain ⟨R, hx, rn, w, wr, lW, K, V, N, nx, ws, fo, pr, rs, fs, rc, mh, ins, HC, HF, HK, rfl⟩ := I
  exact px_clear (h _ (fun ky' vl' => qs_fresh HC.1 HC.2.1 HC.2.2.1 HC.2.2.2.1 HC.2.2.2.2.1 ky' vl'))
theorem qs_clM {T W A c n f e : Nat} {ky vl : Nat → Int32} {u : St2} {post : St2 → Prop} (I : qs_M T W A c n f e ky vl u) (h : ∀ u', (∀ ky' vl', qs_F T W A 0 ky' vl' u') → post u') : wpX_clear post u := by
  obtain ⟨R, d, rn, fsN, rcN, own, lW, K, V, N, nx, ws, fo, pr, rs, fs, rc, mh, HC, HM, HK, rfl⟩ := I
  exact px_clear (h _ (fun ky' vl' => qs_fresh HC.1 HC.2.1 HC.2.2.1 HC.2.2.2.1 HC.2.2.2.2.1 ky' vl'))
theorem qs_clS {T W A c f : Nat} {ky vl : Nat → Int32} {la : Int32} {u : St2} {post : St2 → Prop} (I : qs_S T W A c f ky vl la u) (h : ∀ u', (∀ ky' vl', qs_F T W A 0 ky' vl' u') → post u') : wpX_clear post u := by
  obtain ⟨R, p, rn, ur, lW, K, V, N, nx, ws, fo, pr, rs, fs, rc, mh, HC, HS, Hr, HK, rfl⟩ := I
  exact px_clear (h _ (fun ky' vl' => qs_fresh HC.1 HC.2.1 HC.2.2.1 HC.2.2.2.1 HC.2.2.2.2.1 ky' vl'))
end
section
/-! the law's own small functions -/
def qs_cell (L : Nat) (xs : Nat → Int32) (k : Nat) : Int32 := if L ≤ k then 0 else xs k
theorem qs_c {post : Int32 → Prop} {L k : Nat} {xs : Nat → Int32} {i : Int32} (hL : L ≤ 260) (hk : k < 2 ^ 31) (hi : i = nI k) (h : post (qs_cell L xs k)) : wpL_cell post L xs () i := by
  subst hi
  unfold qs_cell at h
  refine ps_if (d := L ≤ k) (nI_leI (by omega) hk) (fun q => ?_) (fun q => ?_)
  · rw [if_pos q] at h; exact h
  · rw [if_neg q] at h
    refine And.intro (vp_in_nI (by omega) (by omega)) ?_
    rw [nI_clamp hk]; exact h
theorem qs_md (x : Int32) {m : Nat} (h0 : 0 < m) (h1 : m < 1000) : ∃ j, j < m ∧ ∀ post : Int32 → Prop, post (nI j) → wpL_mod post () x (nI m) := by
  have mt : (nI m).toInt = (m : Int) := nI_toInt (by omega)
  have rt := rem_toInt x (nI m)
  rw [mt] at rt
  have tb := tmod_bounds (a := x.toInt) (M := (m : Int)) (by omega)
  generalize hr : x - x / nI m * nI m = r at rt
  have m0 : ¬ nI m = 0 := nI_ne0 h0 (by omega)
  have z0 : (0 : Int32).toInt = 0 := by decide
  by_cases p : 0 ≤ r
  · have p2 := (ps_kle 0 r).1 p
    rw [z0] at p2
    obtain ⟨j, hj, ej⟩ := nI_of (x := r) (Int32.not_lt.mpr p)
    have jt : r.toInt = (j : Int) := by rw [ej]; exact nI_toInt hj
    refine ⟨j, by omega, fun post h => ?_⟩
    refine And.intro m0 (nm_r hr (br_t p ?_))
    rw [ej]; exact h
  · have p2 : r.toInt < 0 := by
      have q : ¬ (0 : Int32).toInt ≤ r.toInt := fun z => p ((ps_kle 0 r).2 z)
      rw [z0] at q
      omega
    have st : (r + nI m).toInt = r.toInt + (m : Int) := by
      rw [Int32.toInt_add, mt]
      exact Int.bmod_eq_of_le (by omega) (by omega)
    have pos : ¬ (r + nI m) < 0 := by
      intro z
      have := (ps_klt _ _).1 z
      rw [z0, st] at this
      omega
    obtain ⟨j, hj, ej⟩ := nI_of (x := r + nI m) pos
    have jt : (r + nI m).toInt = (j : Int) := by rw [ej]; exact nI_toInt hj
    refine ⟨j, by omega, fun post h => ?_⟩
    refine And.intro m0 (nm_r hr (br_f p ?_))
    rw [ej]; exact h
def qs_mix (a b : Int32) : Int32 :=
  ((((a * (-1640531535)) + (b * (-2048144789))) + 19088743) ^^^ (((((a * (-1640531535)) + (b * (-2048144789))) + 19088743).toUInt32 >>> ((15 : Int32).toUInt32 &&& Int32.toUInt32 31)).toInt32)) * 739982445 ^^^ (((((((a * (-1640531535)) + (b * (-2048144789))) + 19088743) ^^^ (((((a * (-1640531535)) + (b * (-2048144789))) + 19088743).toUInt32 >>> ((15 : Int32).toUInt32 &&& Int32.toUInt32 31)).toInt32)) * 739982445).toUInt32 >>> ((13 : Int32).toUInt32 &&& Int32.toUInt32 31)).toInt32)
theorem qs_m {post : Int32 → Prop} {a b : Int32} (h : post (qs_mix a b)) : wpL_mix post () a b := by
  intro x1 e1 x2 e2 x3 e3 x4 e4
  subst e1
  subst e2
  subst e3
  subst e4
  exact h
theorem qs_k0 (m c i : Int32) : ∃ k : Int32, ∀ post : Int32 → Prop, post k → wpL_keyOf post () m c i := by
  by_cases m0 : m = 0
  · exact ⟨_, fun post h => qs_m (br_t m0 h)⟩
  · by_cases m1 : m = 1
    · exact ⟨_, fun post h => qs_m (br_f m0 (br_t m1 h))⟩
    · by_cases m2 : m = 2
      · exact ⟨_, fun post h => qs_m (br_f m0 (br_f m1 (br_t m2 h)))⟩
      · by_cases m3 : m = 3
        · exact ⟨_, fun post h => qs_m (br_f m0 (br_f m1 (br_f m2 (br_t m3 h))))⟩
        · by_cases o : qs_mix c i &&& 1 = 0
          · exact ⟨_, fun post h => qs_m (br_f m0 (br_f m1 (br_f m2 (br_f m3 (nm_e (br_t o h))))))⟩
          · exact ⟨_, fun post h => qs_m (br_f m0 (br_f m1 (br_f m2 (br_f m3 (nm_e (br_f o h))))))⟩
noncomputable def qs_key (m c i : Int32) : Int32 := Classical.choose (qs_k0 m c i)
theorem qs_k {post : Int32 → Prop} {m c i : Int32} (h : post (qs_key m c i)) : wpL_keyOf post () m c i := Classical.choose_spec (qs_k0 m c i) post h
def qs_val (c i : Int32) : Int32 := qs_mix c (i + 77)
theorem qs_v {post : Int32 → Prop} {c i : Int32} (h : post (qs_val c i)) : wpL_valueOf post () c i := qs_m h
noncomputable def qs_ky (L : Nat) (xs : Nat → Int32) (B : Nat) (md : Int32) (x : Nat) : Int32 := qs_key md (qs_cell L xs (B + 4 + x)) (nI x)
def qs_vl (L : Nat) (xs : Nat → Int32) (B : Nat) (x : Nat) : Int32 := qs_val (qs_cell L xs (B + 4 + x)) (nI x)
theorem qs_ix (B x : Nat) : nI B + 4 + nI x = nI (B + 4 + x) := by
  have h : nI B + 4 = nI (B + 4) := nI_add B 4
  rw [h, nI_add]
/-! row -/
theorem qs_row11 {post : Int32 → Prop} {T l j : Nat} (hT : ps_T34 T) (hl : l ≤ 7) (j1 : 1 ≤ j) (jT : j < T) (h : post (nI (ps_pa T l (j - 1)))) :
    ∀ m i, i ≤ l → l - i < m → wL_row_11 post (nI T) (nI l) (nI j) m (nI (ps_pa T i 0)) (nI (ps_pa T i 1)) (nI (ps_pa T i 2)) (nI i) := by
  have t4 := ps_T4 hT
  intro m
  induction m with
  | zero => intro i _ h; omega
  | succ m ih =>
    intro i hi hm
    refine ps_if (d := l ≤ i) (nI_leI (by omega) (by omega)) (fun q => ?_) (fun q => ?_)
    · have e : i = l := by omega
      subst e
      have c : j = 1 ∨ j = 2 ∨ j = 3 := by omega
      rcases c with c | c | c
      · subst c; exact br_t rfl h
      · subst c; exact br_f (by decide) (br_t rfl h)
      · subst c; exact br_f (by decide) (br_f (by decide) h)
    · have s := ih (i + 1) (by omega) (by omega)
      have e0 : ps_pa T (i + 1) 0 = ps_pa T i 0 + ps_pa T i 1 := by rw [ps_pa_s, if_pos (by omega)]
      have e1 : ps_pa T (i + 1) 1 = ps_pa T i 0 + ps_pa T i 2 := by rw [ps_pa_s, if_pos (by omega)]
      rw [e0, e1] at s
      refine br_f (nI_ge (b := 40) (by omega) (by decide)) (nm_r (nI_add _ _) (nm_r (nI_add _ _) (ps_if (d := T = 4) (nI_eq (b := 4) (by omega) (by omega)) (fun z => ?_) (fun z => ?_))))
      · have e2 : ps_pa T (i + 1) 2 = ps_pa T i 0 := by
          rw [ps_pa_s, if_pos (by omega), ps_pa_0 (j := 2 + 1) hT (by omega)]; omega
        rw [e2] at s
        exact nm_r (nI_1 i) s
      · have e2 : ps_pa T (i + 1) 2 = 0 := ps_pa_0 hT (by omega)
        rw [e2] at s
        exact nm_r (nI_1 i) s
theorem qs_row {post : Int32 → Prop} {T l j : Nat} (hT : ps_T34 T) (hl : l ≤ 7) (j1 : 1 ≤ j) (jT : j < T) (h : post (nI (ps_pa T l (j - 1)))) : wpL_row post () (nI T) (nI l) (nI j) := by
  have s := qs_row11 hT hl j1 jT h (l + 1) 0 (by omega) (by omega)
  exact Exists.intro (l + 1) s
/-! the bits of the origins seen -/
theorem qs_bit {w : Int64} {b : Nat} (hb : b < 64) : ((w.toUInt64 >>> ((nI b).toInt64.toUInt64 &&& Int64.toUInt64 63)).toInt64 &&& 1) = 0 ↔ w.toBitVec.getLsbD b = false :=
  ts_bit hb (by rw [wb_cu b hb]; exact u_tn (by omega))
theorem qs_set {w : Int64} {b x : Nat} (hb : b < 64) (hx : x < 64) : (w ||| ((1 : Int64) <<< ((nI b).toInt64 &&& 63))).toBitVec.getLsbD x = true ↔ (w.toBitVec.getLsbD x = true ∨ x = b) := by
  have h : (1 : Int64) <<< ((nI b).toInt64 &&& 63) = lN (1 * 2 ^ b) := wb_shl 1 hb
  rw [h, Nat.one_mul, Int64.toBitVec_or, wb_tb, BitVec.getLsbD_or, BitVec.getLsbD_ofNat, Nat.testBit_two_pow]
  simp only [Bool.or_eq_true, Bool.and_eq_true, decide_eq_true_eq]
  constructor
  · intro q
    rcases q with q | q
    · exact Or.inl q
    · exact Or.inr q.2.symm
  · intro q
    rcases q with q | q
    · exact Or.inl q
    · exact Or.inr ⟨hx, q.symm⟩
end
section
/-! the law's reading loop -/
theorem qs_none {P : Nat → Prop} (h : ∀ y, ¬ P y) (n : Nat) : ps_nP P n = 0 := by
  have := qs_all (P := P) (c := 0) (fun x => ⟨fun z => absurd z (h x), fun z => absurd z (Nat.not_lt_zero x)⟩) n
  omega
/-- the record read last, if there is one -/
def qs_hl (i c : Nat) (la lk lo : Int32) (ky : Nat → Int32) : Prop := i = 0 ∨ ∃ l, la = nI l ∧ l < c ∧ lk = ky l ∧ lo = nI l
theorem qs_701 {post : Int32 → Prop} {L : Nat} {xs : Nat → Int32} {J46 J576 : Int32 → Int32 → Int32 → Int32 → Int32 → Int32 → Int32 → Int32 → Int32 → Int32 → Int32 → Int32 → Int32 → (Nat → Int32) → (Nat → Int32) → (Nat → Int32) → (Nat → Int32) → (Nat → Int32) → (Nat → Int32) → (Nat → Int32) → (Nat → Int32) → (Nat → Int32) → (Nat → Int32) → (Nat → Int32) → Prop} {x1 x3 x7 x11 md : Int32} {kc ks T W A c f B q : Nat} (hL : L ≤ 260) (hB : B ≤ 1000) (hc : c ≤ 64)
    (hJ : ∀ (la : Int32) (tT' wS' rL' sg' rC' gR' hd' lW' lv' oN' ur' cR' : Int32) (K' V' N' nx' ws' fo' pr' rs' fs' rc' mh' : Nat → Int32), qs_S T W A c f (qs_ky L xs B md) (qs_vl L xs B) la (tT', wS', rL', sg', rC', gR', hd', lW', lv', oN', ur', cR', K', V', N', nx', ws', fo', pr', rs', fs', rc', mh') → J576 (nI (q + 1)) tT' wS' rL' sg' rC' gR' hd' lW' lv' oN' ur' cR' K' V' N' nx' ws' fo' pr' rs' fs' rc' mh') :
    ∀ (m i : Nat) (seen : Int64) (lk lo la : Int32) (tT wS rL sg rC gR hd lW lv oN ur cR : Int32) (K V N nx ws fo pr rs fs rc mh : Nat → Int32), i ≤ c → c - i < m → qs_S T W A c f (qs_ky L xs B md) (qs_vl L xs B) la (tT, wS, rL, sg, rC, gR, hd, lW, lv, oN, ur, cR, K, V, N, nx, ws, fo, pr, rs, fs, rc, mh) → ps_nP (ps_aft (qs_ky L xs B md) c la) 64 + i = c →
      (∀ x, x < c → (seen.toBitVec.getLsbD x = true ↔ ¬ ps_aft (qs_ky L xs B md) c la x)) → qs_hl i c la lk lo (qs_ky L xs B md) →
      wL_law_701 post L xs J46 J576 x1 x3 (nI B) md x7 x11 (nI q) (nI c) kc ks m seen lk lo (nI i) tT wS rL sg rC gR hd lW lv oN ur cR K V N nx ws fo pr rs fs rc mh := by
  intro m
  induction m with
  | zero => intro i seen lk lo la tT wS rL sg rC gR hd lW lv oN ur cR K V N nx ws fo pr rs fs rc mh _ h; omega
  | succ m ih =>
    intro i seen lk lo la tT wS rL sg rC gR hd lW lv oN ur cR K V N nx ws fo pr rs fs rc mh hi hm I hn hb hl
    refine ps_if (d := c ≤ i) (nI_leI (by omega) (by omega)) (fun z => ?_) (fun z => ?_)
    · refine qs_read I (fun _ => br_t rfl (nm_r (nI_1 q) (hJ la tT wS rL sg rC gR hd lW lv oN ur cR K V N nx ws fo pr rs fs rc mh I))) (fun b u' bc hmi I' => ?_)
      have a := qs_aft hc hmi bc
      have := qs_pos (n := 64) (by omega) a.1
      omega
    · have ic : i < c := by omega
      refine qs_read I (fun no => ?_) (fun b u' bc hmi I' => ?_)
      · have := qs_none no 64
        omega
      have a := qs_aft hc hmi bc
      obtain ⟨g, G⟩ := qs_fld I' bc
      obtain ⟨tT', wS', rL', sg', rC', gR', hd', lW', lv', oN', ur', cR', K', V', N', nx', ws', fo', pr', rs', fs', rc', mh'⟩ := u'
      have nb : seen.toBitVec.getLsbD b = false := by
        have := hb b bc
        exact ts_nt (fun z => (this.1 z) a.1)
      have ix := qs_ix B b
      have rm := qs_rm (P := ps_aft (qs_ky L xs B md) c la) (Q := ps_aft (qs_ky L xs B md) c (nI b)) (r := b) a.2 a.1 64 (by omega)
      have nxt : wL_law_701 post L xs J46 J576 x1 x3 (nI B) md x7 x11 (nI q) (nI c) kc ks m (seen ||| ((1 : Int64) <<< ((nI b).toInt64 &&& 63))) (qs_ky L xs B md b) (nI b) (nI (i + 1)) tT' wS' rL' sg' rC' gR' hd' lW' lv' oN' ur' cR' K' V' N' nx' ws' fo' pr' rs' fs' rc' mh' := by
        refine ih (i + 1) _ _ _ (nI b) tT' wS' rL' sg' rC' gR' hd' lW' lv' oN' ur' cR' K' V' N' nx' ws' fo' pr' rs' fs' rc' mh' (by omega) (by omega) I' (by omega) (fun x hx => ?_) (Or.inr ⟨b, rfl, bc, rfl, rfl⟩)
        have s := qs_set (w := seen) (b := b) (x := x) (by omega) (by omega)
        have hx2 := hb x hx
        have ax := a.2 x
        constructor
        · intro y w
          rcases s.1 y with v | v
          · exact hx2.1 v (ax.1 w).1
          · exact (ax.1 w).2 v
        · intro y
          refine s.2 ?_
          by_cases e : x = b
          · exact Or.inr e
          · exact Or.inl (hx2.2 (fun w => y (ax.2 ⟨w, e⟩)))
      refine br_t rfl ((G _).2.2.2 (br_f (nI_pos (by omega)) (br_f (nI_ge bc (by omega)) (br_t ((qs_bit (by omega)).2 nb) (nm_e ?_)))))
      refine qs_c hL (by omega) ix ?_
      refine ((G _).1 ?_).2
      refine ((G _).2.1 ?_).2
      refine qs_k (br_t rfl (qs_v (br_t rfl ?_)))
      refine ((G _).1 ?_).1
      refine br_t rfl ?_
      refine ((G _).2.1 ?_).1
      refine br_t rfl ?_
      refine ((G _).2.2.1 ?_).1
      refine ((G _).2.2.1 ?_).2
      refine br_t rfl ?_
      refine ps_if (d := i ≤ 0) (nI_leI (b := 0) (by omega) (by omega)) (fun _ => nm_r (nI_1 i) nxt) (fun i0 => ?_)
      rcases hl with hl | ⟨l, ela, lc, elk, elo⟩
      · omega
      · subst ela
        subst elk
        subst elo
        have lb : ps_L (qs_ky L xs B md) l b := by
          rcases a.1.2 with w | ⟨l', l'c, el, w⟩
          · exact absurd w (ps_ne (by omega))
          · have e := ps_inj (by omega) (by omega) el
            rw [e]; exact w
        unfold ps_L at lb
        refine ps_if (d := (qs_ky L xs B md b).toInt < (qs_ky L xs B md l).toInt) (ps_klt _ _) (fun w => by omega) (fun w => ?_)
        refine ps_if (d := (qs_ky L xs B md b).toInt = (qs_ky L xs B md l).toInt) (ps_keq _ _) (fun w2 => ?_) (fun w2 => nm_r (nI_1 i) nxt)
        exact ps_if (d := l < b) (nI_ltI (by omega) (by omega)) (fun _ => nm_r (nI_1 i) nxt) (fun w3 => by omega)
/-! the reads ahead of a pass -/
theorem qs_618 {post : Int32 → Prop} {L : Nat} {xs : Nat → Int32} {J46 J576 : Int32 → Int32 → Int32 → Int32 → Int32 → Int32 → Int32 → Int32 → Int32 → Int32 → Int32 → Int32 → Int32 → (Nat → Int32) → (Nat → Int32) → (Nat → Int32) → (Nat → Int32) → (Nat → Int32) → (Nat → Int32) → (Nat → Int32) → (Nat → Int32) → (Nat → Int32) → (Nat → Int32) → (Nat → Int32) → Prop} {x1 x3 x7 md : Int32} {kc ks T W A c f B q p : Nat} (hL : L ≤ 260) (hB : B ≤ 1000) (hc : c ≤ 64) (hp : p ≤ 100)
    (hJ : ∀ (la : Int32) (tT' wS' rL' sg' rC' gR' hd' lW' lv' oN' ur' cR' : Int32) (K' V' N' nx' ws' fo' pr' rs' fs' rc' mh' : Nat → Int32), qs_S T W A c f (qs_ky L xs B md) (qs_vl L xs B) la (tT', wS', rL', sg', rC', gR', hd', lW', lv', oN', ur', cR', K', V', N', nx', ws', fo', pr', rs', fs', rc', mh') → J576 (nI (q + 1)) tT' wS' rL' sg' rC' gR' hd' lW' lv' oN' ur' cR' K' V' N' nx' ws' fo' pr' rs' fs' rc' mh') :
    ∀ (m i : Nat) (la : Int32) (tT wS rL sg rC gR hd lW lv oN ur cR : Int32) (K V N nx ws fo pr rs fs rc mh : Nat → Int32), i ≤ p → p - i < m → qs_S T W A c f (qs_ky L xs B md) (qs_vl L xs B) la (tT, wS, rL, sg, rC, gR, hd, lW, lv, oN, ur, cR, K, V, N, nx, ws, fo, pr, rs, fs, rc, mh) →
      wL_law_618 post L xs J46 J576 x1 x3 (nI B) md x7 (nI c) (nI q) (nI p) kc ks m (nI i) tT wS rL sg rC gR hd lW lv oN ur cR K V N nx ws fo pr rs fs rc mh := by
  intro m
  induction m with
  | zero => intro i la tT wS rL sg rC gR hd lW lv oN ur cR K V N nx ws fo pr rs fs rc mh _ h; omega
  | succ m ih =>
    intro i la tT wS rL sg rC gR hd lW lv oN ur cR K V N nx ws fo pr rs fs rc mh hi hm I
    refine ps_if (d := p ≤ i) (nI_leI (by omega) (by omega)) (fun z => ?_) (fun z => ?_)
    · refine qs_rew I (fun u' I' => ?_)
      have C := fun (P : Int32 → Prop) (h : P (nI c)) => qs_cntS (post := P) I' h
      obtain ⟨tT', wS', rL', sg', rC', gR', hd', lW', lv', oN', ur', cR', K', V', N', nx', ws', fo', pr', rs', fs', rc', mh'⟩ := u'
      refine C _ (br_t rfl (Exists.intro (c + 1) (qs_701 hL hB hc hJ (c + 1) 0 0 0 (-1) (-1) tT' wS' rL' sg' rC' gR' hd' lW' lv' oN' ur' cR' K' V' N' nx' ws' fo' pr' rs' fs' rc' mh' (by omega) (by omega) I' ?_ (fun x hx => ?_) (Or.inl rfl))))
      · have := qs_all (P := ps_aft (qs_ky L xs B md) c (-1)) (c := c) (fun x => ⟨fun z => z.1, fun z => ⟨z, Or.inl rfl⟩⟩) 64
        omega
      · constructor
        · intro y
          have z0 : (0 : Int64).toBitVec.getLsbD x = false := BitVec.getLsbD_zero
          rw [z0] at y
          exact absurd y (by decide)
        · intro y; exact absurd ⟨hx, Or.inl rfl⟩ y
    · refine br_c (fun _ => ?_) (fun _ => ?_)
      · refine qs_read I (fun _ => ?_) (fun b u' bc hmi I' => ?_)
        · exact nm_r (nI_1 i) (ih (i + 1) la tT wS rL sg rC gR hd lW lv oN ur cR K V N nx ws fo pr rs fs rc mh (by omega) (by omega) I)
        · obtain ⟨tT', wS', rL', sg', rC', gR', hd', lW', lv', oN', ur', cR', K', V', N', nx', ws', fo', pr', rs', fs', rc', mh'⟩ := u'
          exact nm_r (nI_1 i) (ih (i + 1) (nI b) tT' wS' rL' sg' rC' gR' hd' lW' lv' oN' ur' cR' K' V' N' nx' ws' fo' pr' rs' fs' rc' mh' (by omega) (by omega) I')
      · refine qs_c hL (by omega) (qs_ix B i) (qs_k (qs_rf I (fun r la' u' I' => ?_)))
        obtain ⟨tT', wS', rL', sg', rC', gR', hd', lW', lv', oN', ur', cR', K', V', N', nx', ws', fo', pr', rs', fs', rc', mh'⟩ := u'
        exact nm_r (nI_1 i) (ih (i + 1) la' tT' wS' rL' sg' rC' gR' hd' lW' lv' oN' ur' cR' K' V' N' nx' ws' fo' pr' rs' fs' rc' mh' (by omega) (by omega) I')
/-- any state that a round may end in -/
def qs_Q (T W A c : Nat) (ky vl : Nat → Int32) (u : St2) : Prop := qs_F T W A c ky vl u ∨ (∃ n f e, qs_M T W A c n f e ky vl u) ∨ (∃ f la, qs_S T W A c f ky vl la u)
theorem qs_915 {post : Int32 → Prop} {L : Nat} {xs : Nat → Int32} {J46 : Int32 → Int32 → Int32 → Int32 → Int32 → Int32 → Int32 → Int32 → Int32 → Int32 → Int32 → Int32 → Int32 → (Nat → Int32) → (Nat → Int32) → (Nat → Int32) → (Nat → Int32) → (Nat → Int32) → (Nat → Int32) → (Nat → Int32) → (Nat → Int32) → (Nat → Int32) → (Nat → Int32) → (Nat → Int32) → Prop} {x1 : Int32} {kc ks T W A c r : Nat} {ky vl : Nat → Int32} {tT wS rL sg rC gR hd lW lv oN ur cR : Int32} {K V N nx ws fo pr rs fs rc mh : Nat → Int32}
    (hJ : ∀ (tT' wS' rL' sg' rC' gR' hd' lW' lv' oN' ur' cR' : Int32) (K' V' N' nx' ws' fo' pr' rs' fs' rc' mh' : Nat → Int32), (∀ ky' vl', qs_F T W A 0 ky' vl' (tT', wS', rL', sg', rC', gR', hd', lW', lv', oN', ur', cR', K', V', N', nx', ws', fo', pr', rs', fs', rc', mh')) → J46 (nI (r + 1)) tT' wS' rL' sg' rC' gR' hd' lW' lv' oN' ur' cR' K' V' N' nx' ws' fo' pr' rs' fs' rc' mh') (I : qs_Q T W A c ky vl (tT, wS, rL, sg, rC, gR, hd, lW, lv, oN, ur, cR, K, V, N, nx, ws, fo, pr, rs, fs, rc, mh)) : wL_law_915 post L xs J46 x1 (nI r) kc ks tT wS rL sg rC gR hd lW lv oN ur cR K V N nx ws fo pr rs fs rc mh := by
  rcases I with I | ⟨n, f, e, I⟩ | ⟨f, la, I⟩
  · refine qs_clF I (fun u' I' => ?_)
    obtain ⟨tT', wS', rL', sg', rC', gR', hd', lW', lv', oN', ur', cR', K', V', N', nx', ws', fo', pr', rs', fs', rc', mh'⟩ := u'
    exact nm_r (nI_1 r) (hJ tT' wS' rL' sg' rC' gR' hd' lW' lv' oN' ur' cR' K' V' N' nx' ws' fo' pr' rs' fs' rc' mh' I')
  · refine qs_clM I (fun u' I' => ?_)
    obtain ⟨tT', wS', rL', sg', rC', gR', hd', lW', lv', oN', ur', cR', K', V', N', nx', ws', fo', pr', rs', fs', rc', mh'⟩ := u'
    exact nm_r (nI_1 r) (hJ tT' wS' rL' sg' rC' gR' hd' lW' lv' oN' ur' cR' K' V' N' nx' ws' fo' pr' rs' fs' rc' mh' I')
  · refine qs_clS I (fun u' I' => ?_)
    obtain ⟨tT', wS', rL', sg', rC', gR', hd', lW', lv', oN', ur', cR', K', V', N', nx', ws', fo', pr', rs', fs', rc', mh'⟩ := u'
    exact nm_r (nI_1 r) (hJ tT' wS' rL' sg' rC' gR' hd' lW' lv' oN' ur' cR' K' V' N' nx' ws' fo' pr' rs' fs' rc' mh' I')
theorem qs_576 {post : Int32 → Prop} {L : Nat} {xs : Nat → Int32} {J46 : Int32 → Int32 → Int32 → Int32 → Int32 → Int32 → Int32 → Int32 → Int32 → Int32 → Int32 → Int32 → Int32 → (Nat → Int32) → (Nat → Int32) → (Nat → Int32) → (Nat → Int32) → (Nat → Int32) → (Nat → Int32) → (Nat → Int32) → (Nat → Int32) → (Nat → Int32) → (Nat → Int32) → (Nat → Int32) → Prop} {x1 x7 md : Int32} {kc ks T W A c B r : Nat} (hL : L ≤ 260) (hB : B ≤ 1000) (hc : c ≤ 64)
    (hJ : ∀ (tT' wS' rL' sg' rC' gR' hd' lW' lv' oN' ur' cR' : Int32) (K' V' N' nx' ws' fo' pr' rs' fs' rc' mh' : Nat → Int32), (∀ ky' vl', qs_F T W A 0 ky' vl' (tT', wS', rL', sg', rC', gR', hd', lW', lv', oN', ur', cR', K', V', N', nx', ws', fo', pr', rs', fs', rc', mh')) → J46 (nI (r + 1)) tT' wS' rL' sg' rC' gR' hd' lW' lv' oN' ur' cR' K' V' N' nx' ws' fo' pr' rs' fs' rc' mh') :
    ∀ (m q : Nat) (tT wS rL sg rC gR hd lW lv oN ur cR : Int32) (K V N nx ws fo pr rs fs rc mh : Nat → Int32), q ≤ 2 → 2 - q < m → qs_Q T W A c (qs_ky L xs B md) (qs_vl L xs B) (tT, wS, rL, sg, rC, gR, hd, lW, lv, oN, ur, cR, K, V, N, nx, ws, fo, pr, rs, fs, rc, mh) → wL_law_576 post L xs J46 x1 (nI r) (nI B) md x7 (nI c) kc ks m (nI q) tT wS rL sg rC gR hd lW lv oN ur cR K V N nx ws fo pr rs fs rc mh := by
  intro m
  induction m with
  | zero => intro q tT wS rL sg rC gR hd lW lv oN ur cR K V N nx ws fo pr rs fs rc mh _ h; omega
  | succ m ih =>
    intro q tT wS rL sg rC gR hd lW lv oN ur cR K V N nx ws fo pr rs fs rc mh hq hm I
    refine ps_if (d := 2 ≤ q) (nI_leI (a := 2) (by omega) (by omega)) (fun _ => qs_915 hJ I) (fun z => ?_)
    have I2 := I
    rcases I2 with I2 | ⟨n, f, e, I2⟩ | ⟨f, la, I2⟩
    · exact qs_levF I2 (br_f (by decide) (qs_915 hJ I))
    · have n1 := (qs_mo I2).2.2.1
      have nT := (qs_mo I2).2.2.2.1
      exact qs_levM I2 (br_f (nI_ne0 (by omega) (by omega)) (qs_915 hJ I))
    · refine qs_levS I2 (br_t rfl ?_)
      have J : ∀ (la : Int32) (tT' wS' rL' sg' rC' gR' hd' lW' lv' oN' ur' cR' : Int32) (K' V' N' nx' ws' fo' pr' rs' fs' rc' mh' : Nat → Int32), qs_S T W A c f (qs_ky L xs B md) (qs_vl L xs B) la (tT', wS', rL', sg', rC', gR', hd', lW', lv', oN', ur', cR', K', V', N', nx', ws', fo', pr', rs', fs', rc', mh') → wL_law_576 post L xs J46 x1 (nI r) (nI B) md x7 (nI c) kc ks m (nI (q + 1)) tT' wS' rL' sg' rC' gR' hd' lW' lv' oN' ur' cR' K' V' N' nx' ws' fo' pr' rs' fs' rc' mh' := by
        intro la tT' wS' rL' sg' rC' gR' hd' lW' lv' oN' ur' cR' K' V' N' nx' ws' fo' pr' rs' fs' rc' mh' I'
        exact ih (q + 1) tT' wS' rL' sg' rC' gR' hd' lW' lv' oN' ur' cR' K' V' N' nx' ws' fo' pr' rs' fs' rc' mh' (by omega) (by omega) (Or.inr (Or.inr ⟨f, la, I'⟩))
      refine ps_if (d := q = 0) (nI_eq (b := 0) (by omega) (by omega)) (fun _ => ?_) (fun _ => ?_)
      · obtain ⟨p, hp, ep⟩ := pk_andE ((x7.toUInt32 >>> ((6 : Int32).toUInt32 &&& Int32.toUInt32 31)).toInt32) (m := 3) 2 (by decide)
        exact nm_r ep (Exists.intro (p + 1) (qs_618 hL hB hc (by omega) J (p + 1) 0 la tT wS rL sg rC gR hd lW lv oN ur cR K V N nx ws fo pr rs fs rc mh (by omega) (by omega) I2))
      · obtain ⟨p, hp, ep⟩ := pk_andE (qs_mix x7 1) (m := 31) 5 (by decide)
        exact qs_m (nm_r ep (Exists.intro (p + 1) (qs_618 hL hB hc (by omega) J (p + 1) 0 la tT wS rL sg rC gR hd lW lv oN ur cR K V N nx ws fo pr rs fs rc mh (by omega) (by omega) I2)))
end
section
/-! the checks after a phase -/
theorem qs_rot {T f j : Nat} (hT : ps_T34 T) (hf : f < T) (j1 : 1 ≤ j) (jT : j < T) : (f + j) % T < T ∧ (f + j) % T ≠ f ∧ ((f + j) % T + T - f - 1) % T = j - 1 := by
  rcases hT with e | e <;> subst e <;> omega
theorem qs_506M {post : Int32 → Prop} {L : Nat} {xs : Nat → Int32} {J46 : Int32 → Int32 → Int32 → Int32 → Int32 → Int32 → Int32 → Int32 → Int32 → Int32 → Int32 → Int32 → Int32 → (Nat → Int32) → (Nat → Int32) → (Nat → Int32) → (Nat → Int32) → (Nat → Int32) → (Nat → Int32) → (Nat → Int32) → (Nat → Int32) → (Nat → Int32) → (Nat → Int32) → (Nat → Int32) → Prop} {J236 : Int32 → Int32 → Int32 → Int32 → Int32 → Int32 → Int32 → Int32 → Int32 → Int32 → Int32 → Int32 → Int32 → Int32 → (Nat → Int32) → (Nat → Int32) → (Nat → Int32) → (Nat → Int32) → (Nat → Int32) → (Nat → Int32) → (Nat → Int32) → (Nat → Int32) → (Nat → Int32) → (Nat → Int32) → (Nat → Int32) → Prop} {x3 x4 x6 x7 x8 x9 x10 x11 : Int32} {kc ks T W A c n f s : Nat} {ky vl : Nat → Int32} {tT wS rL sg rC gR hd lW lv oN ur cR : Int32} {K V N nx ws fo pr rs fs rc mh : Nat → Int32} (n1 : 1 ≤ n) (nT : n + T ≤ 10) (hf : f < T) (hT : ps_T34 T)
    (I : qs_M T W A c n f (ps_pa T n (T - 2)) ky vl (tT, wS, rL, sg, rC, gR, hd, lW, lv, oN, ur, cR, K, V, N, nx, ws, fo, pr, rs, fs, rc, mh)) (hJ : J236 x11 (nI (s + 1)) tT wS rL sg rC gR hd lW lv oN ur cR K V N nx ws fo pr rs fs rc mh) :
    ∀ m j, 1 ≤ j → j ≤ T → T - j < m → wL_law_506 post L xs J46 J236 (nI T) x3 x4 x6 x7 x8 x9 x10 x11 (nI s) (nI n) (nI f) kc ks tT wS rL sg rC gR hd lW lv oN ur cR K V N nx ws fo pr rs fs rc mh m (nI j) := by
  have t4 := ps_T4 hT
  intro m
  induction m with
  | zero => intro j _ _ h; omega
  | succ m ih =>
    intro j j1 jT hm
    refine ps_if (d := T ≤ j) (nI_leI (by omega) (by omega)) (fun _ => nm_r (nI_1 s) hJ) (fun z => ?_)
    refine And.intro (nI_ne0 (by omega) (by omega)) ?_
    have r := qs_rot hT hf j1 (by omega)
    have ei : (nI f + nI j) - (nI f + nI j) / nI T * nI T = nI ((f + j) % T) := by
      rw [nI_add]; exact pk_rem (by omega) (by omega) (by omega)
    rw [ei]
    refine qs_roM I r.1 ?_
    rw [if_neg r.2.1, r.2.2]
    refine br_f (nI_ne0 (by omega) (by omega)) (qs_row hT (by omega) j1 (by omega) (br_t rfl (nm_r (nI_1 j) (ih (j + 1) (by omega) (by omega) (by omega)))))
theorem qs_506S {post : Int32 → Prop} {L : Nat} {xs : Nat → Int32} {J46 : Int32 → Int32 → Int32 → Int32 → Int32 → Int32 → Int32 → Int32 → Int32 → Int32 → Int32 → Int32 → Int32 → (Nat → Int32) → (Nat → Int32) → (Nat → Int32) → (Nat → Int32) → (Nat → Int32) → (Nat → Int32) → (Nat → Int32) → (Nat → Int32) → (Nat → Int32) → (Nat → Int32) → (Nat → Int32) → Prop} {J236 : Int32 → Int32 → Int32 → Int32 → Int32 → Int32 → Int32 → Int32 → Int32 → Int32 → Int32 → Int32 → Int32 → Int32 → (Nat → Int32) → (Nat → Int32) → (Nat → Int32) → (Nat → Int32) → (Nat → Int32) → (Nat → Int32) → (Nat → Int32) → (Nat → Int32) → (Nat → Int32) → (Nat → Int32) → (Nat → Int32) → Prop} {x3 x4 x6 x7 x8 x9 x10 x11 la : Int32} {kc ks T W A c f s : Nat} {ky vl : Nat → Int32} {tT wS rL sg rC gR hd lW lv oN ur cR : Int32} {K V N nx ws fo pr rs fs rc mh : Nat → Int32} (hf : f < T) (hT : ps_T34 T)
    (I : qs_S T W A c f ky vl la (tT, wS, rL, sg, rC, gR, hd, lW, lv, oN, ur, cR, K, V, N, nx, ws, fo, pr, rs, fs, rc, mh)) (hJ : J236 x11 (nI (s + 1)) tT wS rL sg rC gR hd lW lv oN ur cR K V N nx ws fo pr rs fs rc mh) :
    ∀ m j, 1 ≤ j → j ≤ T → T - j < m → wL_law_506 post L xs J46 J236 (nI T) x3 x4 x6 x7 x8 x9 x10 x11 (nI s) 0 (nI f) kc ks tT wS rL sg rC gR hd lW lv oN ur cR K V N nx ws fo pr rs fs rc mh m (nI j) := by
  have t4 := ps_T4 hT
  intro m
  induction m with
  | zero => intro j _ _ h; omega
  | succ m ih =>
    intro j j1 jT hm
    refine ps_if (d := T ≤ j) (nI_leI (by omega) (by omega)) (fun _ => nm_r (nI_1 s) hJ) (fun z => ?_)
    refine And.intro (nI_ne0 (by omega) (by omega)) ?_
    have r := qs_rot hT hf j1 (by omega)
    have ei : (nI f + nI j) - (nI f + nI j) / nI T * nI T = nI ((f + j) % T) := by
      rw [nI_add]; exact pk_rem (by omega) (by omega) (by omega)
    rw [ei]
    refine qs_roS I r.1 (fun e => absurd e r.2.1) (fun _ => ?_)
    exact br_t rfl (br_t rfl (nm_r (nI_1 j) (ih (j + 1) (by omega) (by omega) (by omega))))
theorem qs_465M {post : Int32 → Prop} {L : Nat} {xs : Nat → Int32} {J46 : Int32 → Int32 → Int32 → Int32 → Int32 → Int32 → Int32 → Int32 → Int32 → Int32 → Int32 → Int32 → Int32 → (Nat → Int32) → (Nat → Int32) → (Nat → Int32) → (Nat → Int32) → (Nat → Int32) → (Nat → Int32) → (Nat → Int32) → (Nat → Int32) → (Nat → Int32) → (Nat → Int32) → (Nat → Int32) → Prop} {J236 : Int32 → Int32 → Int32 → Int32 → Int32 → Int32 → Int32 → Int32 → Int32 → Int32 → Int32 → Int32 → Int32 → Int32 → (Nat → Int32) → (Nat → Int32) → (Nat → Int32) → (Nat → Int32) → (Nat → Int32) → (Nat → Int32) → (Nat → Int32) → (Nat → Int32) → (Nat → Int32) → (Nat → Int32) → (Nat → Int32) → Prop} {x3 x4 x6 x7 x8 x9 x10 x11 : Int32} {kc ks T W A c n f s : Nat} {ky vl : Nat → Int32} {tT wS rL sg rC gR hd lW lv oN ur cR : Int32} {K V N nx ws fo pr rs fs rc mh : Nat → Int32}
    (I : qs_M T W A c n f (ps_pa T n (T - 2)) ky vl (tT, wS, rL, sg, rC, gR, hd, lW, lv, oN, ur, cR, K, V, N, nx, ws, fo, pr, rs, fs, rc, mh)) (hJ : J236 x11 (nI (s + 1)) tT wS rL sg rC gR hd lW lv oN ur cR K V N nx ws fo pr rs fs rc mh) : wL_law_465 post L xs J46 J236 (nI T) x3 x4 x6 x7 x8 x9 x10 x11 (nI s) kc ks tT wS rL sg rC gR hd lW lv oN ur cR K V N nx ws fo pr rs fs rc mh := by
  obtain ⟨_, e1, n1, nT, hf, hT, _⟩ := qs_mo I
  have t4 := ps_T4 hT
  refine qs_levM I (qs_outM I (br_f (nI_pos (by omega)) (qs_roM I hf ?_)))
  rw [if_pos (rfl : f = f)]
  exact br_f (nI_ne0 (by omega) (by omega)) (br_t rfl (Exists.intro T (qs_506M n1 nT hf hT I hJ T 1 (by omega) (by omega) (by omega))))
theorem qs_465S {post : Int32 → Prop} {L : Nat} {xs : Nat → Int32} {J46 : Int32 → Int32 → Int32 → Int32 → Int32 → Int32 → Int32 → Int32 → Int32 → Int32 → Int32 → Int32 → Int32 → (Nat → Int32) → (Nat → Int32) → (Nat → Int32) → (Nat → Int32) → (Nat → Int32) → (Nat → Int32) → (Nat → Int32) → (Nat → Int32) → (Nat → Int32) → (Nat → Int32) → (Nat → Int32) → Prop} {J236 : Int32 → Int32 → Int32 → Int32 → Int32 → Int32 → Int32 → Int32 → Int32 → Int32 → Int32 → Int32 → Int32 → Int32 → (Nat → Int32) → (Nat → Int32) → (Nat → Int32) → (Nat → Int32) → (Nat → Int32) → (Nat → Int32) → (Nat → Int32) → (Nat → Int32) → (Nat → Int32) → (Nat → Int32) → (Nat → Int32) → Prop} {x3 x4 x6 x7 x8 x9 x10 x11 la : Int32} {kc ks T W A c f s : Nat} {ky vl : Nat → Int32} {tT wS rL sg rC gR hd lW lv oN ur cR : Int32} {K V N nx ws fo pr rs fs rc mh : Nat → Int32}
    (I : qs_S T W A c f ky vl la (tT, wS, rL, sg, rC, gR, hd, lW, lv, oN, ur, cR, K, V, N, nx, ws, fo, pr, rs, fs, rc, mh)) (hJ : J236 x11 (nI (s + 1)) tT wS rL sg rC gR hd lW lv oN ur cR K V N nx ws fo pr rs fs rc mh) : wL_law_465 post L xs J46 J236 (nI T) x3 x4 x6 x7 x8 x9 x10 x11 (nI s) kc ks tT wS rL sg rC gR hd lW lv oN ur cR K V N nx ws fo pr rs fs rc mh := by
  have I2 := I
  obtain ⟨R, p, rn, ur', lW', K', V', N', nx', ws', fo', pr', rs', fs', rc', mh', HC, HS, Hr, HK, _⟩ := I2
  have hT := HC.1
  have hf := HS.1
  have t4 := ps_T4 hT
  refine qs_levS I (qs_outS I (br_f (by decide) (qs_roS I hf (fun _ => ?_) (fun z => absurd rfl z))))
  exact br_t rfl (br_t rfl (Exists.intro T (qs_506S hf hT I hJ T 1 (by omega) (by omega) (by omega))))
/-! one step -/
def qs_rem (T n e : Nat) : Nat := e + qs_mg T (n - 1)
theorem qs_remP {T n : Nat} (h : 1 ≤ n) : qs_rem T n (ps_pa T n (T - 2)) = qs_mg T n := by
  obtain ⟨m, rfl⟩ : ∃ m, n = m + 1 := ⟨n - 1, by omega⟩
  show ps_pa T (m + 1) (T - 2) + qs_mg T (m + 1 - 1) = qs_mg T m + ps_pa T (m + 1) (T - 2)
  rw [Nat.add_sub_cancel]
  exact Nat.add_comm _ _
/-- a state at the head of a step s that is not the first -/
def qs_H (T W A c s : Nat) (ky vl : Nat → Int32) (u : St2) : Prop := (∃ n f e, qs_M T W A c n f e ky vl u ∧ qs_rem T n e + s ≤ 41) ∨ (∃ f la, qs_S T W A c f ky vl la u)
theorem qs_397 {post : Int32 → Prop} {L : Nat} {xs : Nat → Int32} {J46 : Int32 → Int32 → Int32 → Int32 → Int32 → Int32 → Int32 → Int32 → Int32 → Int32 → Int32 → Int32 → Int32 → (Nat → Int32) → (Nat → Int32) → (Nat → Int32) → (Nat → Int32) → (Nat → Int32) → (Nat → Int32) → (Nat → Int32) → (Nat → Int32) → (Nat → Int32) → (Nat → Int32) → (Nat → Int32) → Prop} {J236 : Int32 → Int32 → Int32 → Int32 → Int32 → Int32 → Int32 → Int32 → Int32 → Int32 → Int32 → Int32 → Int32 → Int32 → (Nat → Int32) → (Nat → Int32) → (Nat → Int32) → (Nat → Int32) → (Nat → Int32) → (Nat → Int32) → (Nat → Int32) → (Nat → Int32) → (Nat → Int32) → (Nat → Int32) → (Nat → Int32) → Prop} {x3 x4 x6 x7 x8 x9 x10 x11 z0 : Int32} {kc ks T W A c n f e s : Nat} {ky vl : Nat → Int32} {tT wS rL sg rC gR hd lW lv oN ur cR : Int32} {K V N nx ws fo pr rs fs rc mh : Nat → Int32}
    (I : qs_M T W A c n f e ky vl (tT, wS, rL, sg, rC, gR, hd, lW, lv, oN, ur, cR, K, V, N, nx, ws, fo, pr, rs, fs, rc, mh)) (hs : qs_rem T n e + s ≤ 41) (hJ : ∀ (tT' wS' rL' sg' rC' gR' hd' lW' lv' oN' ur' cR' : Int32) (K' V' N' nx' ws' fo' pr' rs' fs' rc' mh' : Nat → Int32), qs_H T W A c (s + 1) ky vl (tT', wS', rL', sg', rC', gR', hd', lW', lv', oN', ur', cR', K', V', N', nx', ws', fo', pr', rs', fs', rc', mh') → J236 x11 (nI (s + 1)) tT' wS' rL' sg' rC' gR' hd' lW' lv' oN' ur' cR' K' V' N' nx' ws' fo' pr' rs' fs' rc' mh') :
    wL_law_397 post L xs J46 J236 (nI T) x3 x4 x6 x7 x8 x9 x10 x11 (nI s) (nI n) z0 kc ks tT wS rL sg rC gR hd lW lv oN ur cR K V N nx ws fo pr rs fs rc mh := by
  obtain ⟨_, e1, n1, nT, hf, hT, M⟩ := qs_mo I
  have t4 := ps_T4 hT
  have q0 : nI n - 1 = nI (n - 1) := ps_p1 n1
  have g4 : ∀ (tT' wS' rL' sg' rC' gR' hd' lW' lv' oN' ur' cR' : Int32) (K' V' N' nx' ws' fo' pr' rs' fs' rc' mh' : Nat → Int32), 2 ≤ n → qs_M T W A c (n - 1) ((f + T - 1) % T) (ps_pa T (n - 1) (T - 2)) ky vl (tT', wS', rL', sg', rC', gR', hd', lW', lv', oN', ur', cR', K', V', N', nx', ws', fo', pr', rs', fs', rc', mh') → wL_law_452 post L xs J46 J236 (nI T) x3 x4 x6 x7 x8 x9 x10 x11 (nI s) (nI n) kc ks tT' wS' rL' sg' rC' gR' hd' lW' lv' oN' ur' cR' K' V' N' nx' ws' fo' pr' rs' fs' rc' mh' := by
    intro tT' wS' rL' sg' rC' gR' hd' lW' lv' oN' ur' cR' K' V' N' nx' ws' fo' pr' rs' fs' rc' mh' n2 I'
    refine qs_levM I' (br_t q0.symm (qs_465M I' (hJ tT' wS' rL' sg' rC' gR' hd' lW' lv' oN' ur' cR' K' V' N' nx' ws' fo' pr' rs' fs' rc' mh' (Or.inl ⟨_, _, _, I', ?_⟩))))
    rw [qs_remP (by omega)]
    unfold qs_rem at hs
    omega
  have g5 : ∀ (tT' wS' rL' sg' rC' gR' hd' lW' lv' oN' ur' cR' : Int32) (K' V' N' nx' ws' fo' pr' rs' fs' rc' mh' : Nat → Int32), n = 1 → qs_S T W A c f ky vl (-1) (tT', wS', rL', sg', rC', gR', hd', lW', lv', oN', ur', cR', K', V', N', nx', ws', fo', pr', rs', fs', rc', mh') → wL_law_452 post L xs J46 J236 (nI T) x3 x4 x6 x7 x8 x9 x10 x11 (nI s) (nI n) kc ks tT' wS' rL' sg' rC' gR' hd' lW' lv' oN' ur' cR' K' V' N' nx' ws' fo' pr' rs' fs' rc' mh' := by
    intro tT' wS' rL' sg' rC' gR' hd' lW' lv' oN' ur' cR' K' V' N' nx' ws' fo' pr' rs' fs' rc' mh' n2 I'
    refine qs_levS I' (br_t ?_ (qs_465S I' (hJ tT' wS' rL' sg' rC' gR' hd' lW' lv' oN' ur' cR' K' V' N' nx' ws' fo' pr' rs' fs' rc' mh' (Or.inr ⟨_, _, I'⟩))))
    rw [q0, n2]; rfl
  refine br_c (fun z => ?_) (fun z => ?_)
  · refine M _ (fun u' I' e2 => ?_) (fun u' ee n2 I' => ?_) (fun u' ee n2 I' => ?_)
    · obtain ⟨tT', wS', rL', sg', rC', gR', hd', lW', lv', oN', ur', cR', K', V', N', nx', ws', fo', pr', rs', fs', rc', mh'⟩ := u'
      refine br_t z (br_t rfl (qs_levM I' (br_t rfl (nm_r (nI_1 s) (hJ tT' wS' rL' sg' rC' gR' hd' lW' lv' oN' ur' cR' K' V' N' nx' ws' fo' pr' rs' fs' rc' mh' (Or.inl ⟨_, _, _, I', ?_⟩))))))
      unfold qs_rem at hs ⊢
      omega
    · obtain ⟨tT', wS', rL', sg', rC', gR', hd', lW', lv', oN', ur', cR', K', V', N', nx', ws', fo', pr', rs', fs', rc', mh'⟩ := u'
      exact br_t z (br_f (by decide) (br_t rfl (g4 tT' wS' rL' sg' rC' gR' hd' lW' lv' oN' ur' cR' K' V' N' nx' ws' fo' pr' rs' fs' rc' mh' n2 I')))
    · obtain ⟨tT', wS', rL', sg', rC', gR', hd', lW', lv', oN', ur', cR', K', V', N', nx', ws', fo', pr', rs', fs', rc', mh'⟩ := u'
      exact br_t z (br_f (by decide) (br_f (by decide) (br_t rfl (g5 tT' wS' rL' sg' rC' gR' hd' lW' lv' oN' ur' cR' K' V' N' nx' ws' fo' pr' rs' fs' rc' mh' n2 I'))))
  · refine qs_mp I (fun u' n2 I' => ?_) (fun u' n2 I' => ?_)
    · obtain ⟨tT', wS', rL', sg', rC', gR', hd', lW', lv', oN', ur', cR', K', V', N', nx', ws', fo', pr', rs', fs', rc', mh'⟩ := u'
      exact br_f z (br_t rfl (g4 tT' wS' rL' sg' rC' gR' hd' lW' lv' oN' ur' cR' K' V' N' nx' ws' fo' pr' rs' fs' rc' mh' n2 I'))
    · obtain ⟨tT', wS', rL', sg', rC', gR', hd', lW', lv', oN', ur', cR', K', V', N', nx', ws', fo', pr', rs', fs', rc', mh'⟩ := u'
      exact br_f z (br_f (by decide) (br_t rfl (g5 tT' wS' rL' sg' rC' gR' hd' lW' lv' oN' ur' cR' K' V' N' nx' ws' fo' pr' rs' fs' rc' mh' n2 I')))
theorem qs_328M {post : Int32 → Prop} {L : Nat} {xs : Nat → Int32} {J46 : Int32 → Int32 → Int32 → Int32 → Int32 → Int32 → Int32 → Int32 → Int32 → Int32 → Int32 → Int32 → Int32 → (Nat → Int32) → (Nat → Int32) → (Nat → Int32) → (Nat → Int32) → (Nat → Int32) → (Nat → Int32) → (Nat → Int32) → (Nat → Int32) → (Nat → Int32) → (Nat → Int32) → (Nat → Int32) → Prop} {J236 : Int32 → Int32 → Int32 → Int32 → Int32 → Int32 → Int32 → Int32 → Int32 → Int32 → Int32 → Int32 → Int32 → Int32 → (Nat → Int32) → (Nat → Int32) → (Nat → Int32) → (Nat → Int32) → (Nat → Int32) → (Nat → Int32) → (Nat → Int32) → (Nat → Int32) → (Nat → Int32) → (Nat → Int32) → (Nat → Int32) → Prop} {x3 x4 x6 x7 x8 x9 x10 x11 : Int32} {kc ks T W A c n f e s : Nat} {ky vl : Nat → Int32} {tT wS rL sg rC gR hd lW lv oN ur cR : Int32} {K V N nx ws fo pr rs fs rc mh : Nat → Int32} (s1 : 1 ≤ s) (s2 : s < 1000)
    (I : qs_M T W A c n f e ky vl (tT, wS, rL, sg, rC, gR, hd, lW, lv, oN, ur, cR, K, V, N, nx, ws, fo, pr, rs, fs, rc, mh)) (hs : qs_rem T n e + s ≤ 41) (hJ : ∀ (tT' wS' rL' sg' rC' gR' hd' lW' lv' oN' ur' cR' : Int32) (K' V' N' nx' ws' fo' pr' rs' fs' rc' mh' : Nat → Int32), qs_H T W A c (s + 1) ky vl (tT', wS', rL', sg', rC', gR', hd', lW', lv', oN', ur', cR', K', V', N', nx', ws', fo', pr', rs', fs', rc', mh') → J236 x11 (nI (s + 1)) tT' wS' rL' sg' rC' gR' hd' lW' lv' oN' ur' cR' K' V' N' nx' ws' fo' pr' rs' fs' rc' mh') :
    wL_law_328 post L xs J46 J236 (nI T) x3 x4 x6 x7 x8 x9 x10 x11 (nI s) kc ks tT wS rL sg rC gR hd lW lv oN ur cR K V N nx ws fo pr rs fs rc mh := by
  have S := fun (z0 : Int32) => qs_397 (post := post) (L := L) (xs := xs) (J46 := J46) (J236 := J236) (x3 := x3) (x4 := x4) (x6 := x6) (x7 := x7) (x8 := x8) (x9 := x9) (x10 := x10) (x11 := x11) (z0 := z0) (kc := kc) (ks := ks) I hs hJ
  refine qs_levM I (br_f (nI_ne0 (by omega) (by omega)) (nm_e (br_c (fun _ => S 1) (fun _ => br_c (fun _ => S 0) (fun _ => qs_m (br_c (fun _ => S 1) (fun _ => S 0)))))))
theorem qs_262M {post : Int32 → Prop} {L : Nat} {xs : Nat → Int32} {J46 : Int32 → Int32 → Int32 → Int32 → Int32 → Int32 → Int32 → Int32 → Int32 → Int32 → Int32 → Int32 → Int32 → (Nat → Int32) → (Nat → Int32) → (Nat → Int32) → (Nat → Int32) → (Nat → Int32) → (Nat → Int32) → (Nat → Int32) → (Nat → Int32) → (Nat → Int32) → (Nat → Int32) → (Nat → Int32) → Prop} {J236 : Int32 → Int32 → Int32 → Int32 → Int32 → Int32 → Int32 → Int32 → Int32 → Int32 → Int32 → Int32 → Int32 → Int32 → (Nat → Int32) → (Nat → Int32) → (Nat → Int32) → (Nat → Int32) → (Nat → Int32) → (Nat → Int32) → (Nat → Int32) → (Nat → Int32) → (Nat → Int32) → (Nat → Int32) → (Nat → Int32) → Prop} {x3 x7 x8 x9 x10 md : Int32} {kc ks T W A c n f e s B : Nat} {ky vl : Nat → Int32} {tT wS rL sg rC gR hd lW lv oN ur cR : Int32} {K V N nx ws fo pr rs fs rc mh : Nat → Int32} (hL : L ≤ 260) (hB : B ≤ 1000) (hc : c ≤ 64) (s1 : 1 ≤ s) (s2 : s < 1000)
    (I : qs_M T W A c n f e ky vl (tT, wS, rL, sg, rC, gR, hd, lW, lv, oN, ur, cR, K, V, N, nx, ws, fo, pr, rs, fs, rc, mh)) (hs : qs_rem T n e + s ≤ 41) (hJ : ∀ (tT' wS' rL' sg' rC' gR' hd' lW' lv' oN' ur' cR' : Int32) (K' V' N' nx' ws' fo' pr' rs' fs' rc' mh' : Nat → Int32), qs_H T W A c (s + 1) ky vl (tT', wS', rL', sg', rC', gR', hd', lW', lv', oN', ur', cR', K', V', N', nx', ws', fo', pr', rs', fs', rc', mh') → J236 (nI c) (nI (s + 1)) tT' wS' rL' sg' rC' gR' hd' lW' lv' oN' ur' cR' K' V' N' nx' ws' fo' pr' rs' fs' rc' mh') :
    wL_law_262 post L xs J46 J236 (nI T) x3 (nI B) md x7 x8 x9 x10 (nI c) (nI s) kc ks tT wS rL sg rC gR hd lW lv oN ur cR K V N nx ws fo pr rs fs rc mh := by
  have E : wL_law_328 post L xs J46 J236 (nI T) x3 (nI B) md x7 x8 x9 x10 (nI c) (nI s) kc ks tT wS rL sg rC gR hd lW lv oN ur cR K V N nx ws fo pr rs fs rc mh := qs_328M s1 s2 I hs hJ
  have E2 : wL_law_318 post L xs J46 J236 (nI T) x3 (nI B) md x7 x8 x9 x10 (nI c) (nI s) kc ks tT wS rL sg rC gR hd lW lv oN ur cR K V N nx ws fo pr rs fs rc mh := qs_readM I (qs_rewM I E)
  refine br_c (fun _ => E) (fun _ => br_f (nI_nle (by omega) (by omega)) (qs_c hL (by omega) (qs_ix B c) (br_c (fun _ => E2) (fun _ => qs_k (qs_v (qs_putM I (br_f (by decide) E2)))))))
theorem qs_557 {post : Int32 → Prop} {L : Nat} {xs : Nat → Int32} {J46 : Int32 → Int32 → Int32 → Int32 → Int32 → Int32 → Int32 → Int32 → Int32 → Int32 → Int32 → Int32 → Int32 → (Nat → Int32) → (Nat → Int32) → (Nat → Int32) → (Nat → Int32) → (Nat → Int32) → (Nat → Int32) → (Nat → Int32) → (Nat → Int32) → (Nat → Int32) → (Nat → Int32) → (Nat → Int32) → Prop} {x1 x7 x9 md : Int32} {kc ks T W A c B r : Nat} {tT wS rL sg rC gR hd lW lv oN ur cR : Int32} {K V N nx ws fo pr rs fs rc mh : Nat → Int32} (hL : L ≤ 260) (hB : B ≤ 1000) (hc : c ≤ 64)
    (hJ : ∀ (tT' wS' rL' sg' rC' gR' hd' lW' lv' oN' ur' cR' : Int32) (K' V' N' nx' ws' fo' pr' rs' fs' rc' mh' : Nat → Int32), (∀ ky' vl', qs_F T W A 0 ky' vl' (tT', wS', rL', sg', rC', gR', hd', lW', lv', oN', ur', cR', K', V', N', nx', ws', fo', pr', rs', fs', rc', mh')) → J46 (nI (r + 1)) tT' wS' rL' sg' rC' gR' hd' lW' lv' oN' ur' cR' K' V' N' nx' ws' fo' pr' rs' fs' rc' mh') (I : qs_Q T W A c (qs_ky L xs B md) (qs_vl L xs B) (tT, wS, rL, sg, rC, gR, hd, lW, lv, oN, ur, cR, K, V, N, nx, ws, fo, pr, rs, fs, rc, mh))
    (h9 : x9 ≤ 40 ∨ ∃ f la, qs_S T W A c f (qs_ky L xs B md) (qs_vl L xs B) la (tT, wS, rL, sg, rC, gR, hd, lW, lv, oN, ur, cR, K, V, N, nx, ws, fo, pr, rs, fs, rc, mh)) : wL_law_557 post L xs J46 x1 (nI r) (nI B) md x7 x9 (nI c) kc ks tT wS rL sg rC gR hd lW lv oN ur cR K V N nx ws fo pr rs fs rc mh := by
  have E := qs_576 (post := post) (x1 := x1) (x7 := x7) (md := md) (kc := kc) (ks := ks) hL hB hc hJ 3 0 tT wS rL sg rC gR hd lW lv oN ur cR K V N nx ws fo pr rs fs rc mh (by omega) (by omega) I
  rcases h9 with h9 | ⟨f, la, S⟩
  · exact br_t h9 (Exists.intro 3 E)
  · exact br_c (fun _ => Exists.intro 3 E) (fun _ => qs_levS S (br_t rfl (Exists.intro 3 E)))
/-- the number of steps allowed: 99, or at most 7 -/
def qs_st (x9 : Int32) : Prop := x9 = 99 ∨ ∃ j : Nat, j ≤ 7 ∧ x9 = nI j
theorem qs_st9 {x9 : Int32} (h : qs_st x9) {s : Nat} (hs : s ≤ 41) (le : x9 ≤ nI s) : x9 ≤ 40 := by
  rcases h with h | ⟨j, hj, h⟩
  · subst h
    exact absurd le (nI_ge (b := 99) (by omega) (by decide))
  · subst h
    exact nI_le (b := 40) (by omega) (by decide)
theorem qs_236 {post : Int32 → Prop} {L : Nat} {xs : Nat → Int32} {J46 : Int32 → Int32 → Int32 → Int32 → Int32 → Int32 → Int32 → Int32 → Int32 → Int32 → Int32 → Int32 → Int32 → (Nat → Int32) → (Nat → Int32) → (Nat → Int32) → (Nat → Int32) → (Nat → Int32) → (Nat → Int32) → (Nat → Int32) → (Nat → Int32) → (Nat → Int32) → (Nat → Int32) → (Nat → Int32) → Prop} {x7 x8 x9 x10 md : Int32} {kc ks T W A c B r : Nat} (hL : L ≤ 260) (hB : B ≤ 1000) (hc : c ≤ 64) (h9 : qs_st x9)
    (hJ : ∀ (tT' wS' rL' sg' rC' gR' hd' lW' lv' oN' ur' cR' : Int32) (K' V' N' nx' ws' fo' pr' rs' fs' rc' mh' : Nat → Int32), (∀ ky' vl', qs_F T W A 0 ky' vl' (tT', wS', rL', sg', rC', gR', hd', lW', lv', oN', ur', cR', K', V', N', nx', ws', fo', pr', rs', fs', rc', mh')) → J46 (nI (r + 1)) tT' wS' rL' sg' rC' gR' hd' lW' lv' oN' ur' cR' K' V' N' nx' ws' fo' pr' rs' fs' rc' mh') :
    ∀ (m s : Nat) (tT wS rL sg rC gR hd lW lv oN ur cR : Int32) (K V N nx ws fo pr rs fs rc mh : Nat → Int32), 1 ≤ s → s ≤ 41 → 41 - s < m → qs_H T W A c s (qs_ky L xs B md) (qs_vl L xs B) (tT, wS, rL, sg, rC, gR, hd, lW, lv, oN, ur, cR, K, V, N, nx, ws, fo, pr, rs, fs, rc, mh) → wL_law_236 post L xs J46 (nI T) (nI r) (nI B) md x7 x8 x9 x10 kc ks m (nI c) (nI s) tT wS rL sg rC gR hd lW lv oN ur cR K V N nx ws fo pr rs fs rc mh := by
  intro m
  induction m with
  | zero => intro s tT wS rL sg rC gR hd lW lv oN ur cR K V N nx ws fo pr rs fs rc mh _ _ h; omega
  | succ m ih =>
    intro s tT wS rL sg rC gR hd lW lv oN ur cR K V N nx ws fo pr rs fs rc mh s1 s41 hm H
    rcases H with ⟨n, f, e, I, hs⟩ | ⟨f, la, I⟩
    · have QQ : qs_Q T W A c (qs_ky L xs B md) (qs_vl L xs B) (tT, wS, rL, sg, rC, gR, hd, lW, lv, oN, ur, cR, K, V, N, nx, ws, fo, pr, rs, fs, rc, mh) := Or.inr (Or.inl ⟨n, f, e, I⟩)
      obtain ⟨_, e1, n1, nT, hf, hT, _⟩ := qs_mo I
      have se : s ≤ 40 := by unfold qs_rem at hs; omega
      refine br_f (nI_nlt (a := 40) (b := s) (by omega) (by decide)) (br_c (fun z => qs_557 hL hB hc hJ QQ (Or.inl (qs_st9 h9 s41 z))) (fun _ => br_f (nI_ne0 (by omega) (by omega)) (qs_levM I (br_f (nI_nle (by omega) (by omega)) ?_))))
      exact qs_262M hL hB hc s1 (by omega) I hs (fun tT' wS' rL' sg' rC' gR' hd' lW' lv' oN' ur' cR' K' V' N' nx' ws' fo' pr' rs' fs' rc' mh' H' => ih (s + 1) tT' wS' rL' sg' rC' gR' hd' lW' lv' oN' ur' cR' K' V' N' nx' ws' fo' pr' rs' fs' rc' mh' (by omega) (by omega) (by omega) H')
    · have QQ : qs_Q T W A c (qs_ky L xs B md) (qs_vl L xs B) (tT, wS, rL, sg, rC, gR, hd, lW, lv, oN, ur, cR, K, V, N, nx, ws, fo, pr, rs, fs, rc, mh) := Or.inr (Or.inr ⟨f, la, I⟩)
      have E : wL_law_557 post L xs J46 (nI T) (nI r) (nI B) md x7 x9 (nI c) kc ks tT wS rL sg rC gR hd lW lv oN ur cR K V N nx ws fo pr rs fs rc mh := qs_557 hL hB hc hJ QQ (Or.inr ⟨f, la, I⟩)
      exact br_c (fun _ => E) (fun _ => br_c (fun _ => E) (fun _ => br_f (nI_ne0 (by omega) (by omega)) (qs_levS I (br_t (by decide) E))))
/-- the first step: finish -/
theorem qs_236F {post : Int32 → Prop} {L : Nat} {xs : Nat → Int32} {J46 : Int32 → Int32 → Int32 → Int32 → Int32 → Int32 → Int32 → Int32 → Int32 → Int32 → Int32 → Int32 → Int32 → (Nat → Int32) → (Nat → Int32) → (Nat → Int32) → (Nat → Int32) → (Nat → Int32) → (Nat → Int32) → (Nat → Int32) → (Nat → Int32) → (Nat → Int32) → (Nat → Int32) → (Nat → Int32) → Prop} {x7 x8 x9 x10 md : Int32} {kc ks T W A c B r : Nat} {tT wS rL sg rC gR hd lW lv oN ur cR : Int32} {K V N nx ws fo pr rs fs rc mh : Nat → Int32} (hL : L ≤ 260) (hB : B ≤ 1000) (hc : c ≤ 64) (h9 : qs_st x9)
    (hJ : ∀ (tT' wS' rL' sg' rC' gR' hd' lW' lv' oN' ur' cR' : Int32) (K' V' N' nx' ws' fo' pr' rs' fs' rc' mh' : Nat → Int32), (∀ ky' vl', qs_F T W A 0 ky' vl' (tT', wS', rL', sg', rC', gR', hd', lW', lv', oN', ur', cR', K', V', N', nx', ws', fo', pr', rs', fs', rc', mh')) → J46 (nI (r + 1)) tT' wS' rL' sg' rC' gR' hd' lW' lv' oN' ur' cR' K' V' N' nx' ws' fo' pr' rs' fs' rc' mh') (I : qs_F T W A c (qs_ky L xs B md) (qs_vl L xs B) (tT, wS, rL, sg, rC, gR, hd, lW, lv, oN, ur, cR, K, V, N, nx, ws, fo, pr, rs, fs, rc, mh)) :
    wL_law_236 post L xs J46 (nI T) (nI r) (nI B) md x7 x8 x9 x10 kc ks 42 (nI c) 0 tT wS rL sg rC gR hd lW lv oN ur cR K V N nx ws fo pr rs fs rc mh := by
  have I2 := I
  obtain ⟨R, h, rn, w, wr, lW', K', V', N', nx', ws', fo', pr', rs', fs', rc', mh', ins', HC, HF, HK, _⟩ := I2
  have hT := HC.1
  have nxt : ∀ (tT' wS' rL' sg' rC' gR' hd' lW' lv' oN' ur' cR' : Int32) (K' V' N' nx' ws' fo' pr' rs' fs' rc' mh' : Nat → Int32), qs_H T W A c 1 (qs_ky L xs B md) (qs_vl L xs B) (tT', wS', rL', sg', rC', gR', hd', lW', lv', oN', ur', cR', K', V', N', nx', ws', fo', pr', rs', fs', rc', mh') → wL_law_236 post L xs J46 (nI T) (nI r) (nI B) md x7 x8 x9 x10 kc ks 41 (nI c) (nI (0 + 1)) tT' wS' rL' sg' rC' gR' hd' lW' lv' oN' ur' cR' K' V' N' nx' ws' fo' pr' rs' fs' rc' mh' := by
    intro tT' wS' rL' sg' rC' gR' hd' lW' lv' oN' ur' cR' K' V' N' nx' ws' fo' pr' rs' fs' rc' mh' H
    exact qs_236 hL hB hc h9 hJ 41 1 tT' wS' rL' sg' rC' gR' hd' lW' lv' oN' ur' cR' K' V' N' nx' ws' fo' pr' rs' fs' rc' mh' (by omega) (by omega) (by omega) H
  have E : wL_law_328 post L xs J46 (wL_law_236 post L xs J46 (nI T) (nI r) (nI B) md x7 x8 x9 x10 kc ks 41) (nI T) (nI r) (nI B) md x7 x8 x9 x10 (nI c) 0 kc ks tT wS rL sg rC gR hd lW lv oN ur cR K V N nx ws fo pr rs fs rc mh := by
    refine qs_levF I (br_t rfl (qs_finish I (fun n u' n1 nT I' => ?_) (fun u' I' => ?_)))
    · obtain ⟨tT', wS', rL', sg', rC', gR', hd', lW', lv', oN', ur', cR', K', V', N', nx', ws', fo', pr', rs', fs', rc', mh'⟩ := u'
      refine br_t rfl (qs_465M (s := 0) I' (nxt tT' wS' rL' sg' rC' gR' hd' lW' lv' oN' ur' cR' K' V' N' nx' ws' fo' pr' rs' fs' rc' mh' (Or.inl ⟨n, _, _, I', ?_⟩)))
      rw [qs_remP n1]
      have b := qs_mgb hT nT
      omega
    · obtain ⟨tT', wS', rL', sg', rC', gR', hd', lW', lv', oN', ur', cR', K', V', N', nx', ws', fo', pr', rs', fs', rc', mh'⟩ := u'
      exact br_f (by decide) (br_t rfl (qs_465S (s := 0) I' (nxt tT' wS' rL' sg' rC' gR' hd' lW' lv' oN' ur' cR' K' V' N' nx' ws' fo' pr' rs' fs' rc' mh' (Or.inr ⟨_, _, I'⟩))))
  refine br_f (by decide) (br_c (fun z => qs_557 hL hB hc hJ (Or.inl I) (Or.inl (qs_st9 h9 (s := 0) (by omega) z))) (fun _ => br_t rfl (br_c (fun _ => E) (fun _ => br_t (by decide) E))))
/-! feeding -/
theorem qs_157 {post : Int32 → Prop} {L : Nat} {xs : Nat → Int32} {J46 : Int32 → Int32 → Int32 → Int32 → Int32 → Int32 → Int32 → Int32 → Int32 → Int32 → Int32 → Int32 → Int32 → (Nat → Int32) → (Nat → Int32) → (Nat → Int32) → (Nat → Int32) → (Nat → Int32) → (Nat → Int32) → (Nat → Int32) → (Nat → Int32) → (Nat → Int32) → (Nat → Int32) → (Nat → Int32) → Prop} {x7 x8 x9 x10 md : Int32} {kc ks T W A B r t : Nat} (hL : L ≤ 260) (hB : B ≤ 1000) (ht : t ≤ 64) (h9 : qs_st x9)
    (hJ : ∀ (tT' wS' rL' sg' rC' gR' hd' lW' lv' oN' ur' cR' : Int32) (K' V' N' nx' ws' fo' pr' rs' fs' rc' mh' : Nat → Int32), (∀ ky' vl', qs_F T W A 0 ky' vl' (tT', wS', rL', sg', rC', gR', hd', lW', lv', oN', ur', cR', K', V', N', nx', ws', fo', pr', rs', fs', rc', mh')) → J46 (nI (r + 1)) tT' wS' rL' sg' rC' gR' hd' lW' lv' oN' ur' cR' K' V' N' nx' ws' fo' pr' rs' fs' rc' mh') :
    ∀ (m c i : Nat) (tT wS rL sg rC gR hd lW lv oN ur cR : Int32) (K V N nx ws fo pr rs fs rc mh : Nat → Int32), i ≤ t → t - i < m → qs_F T W A c (qs_ky L xs B md) (qs_vl L xs B) (tT, wS, rL, sg, rC, gR, hd, lW, lv, oN, ur, cR, K, V, N, nx, ws, fo, pr, rs, fs, rc, mh) → wL_law_157 post L xs J46 (nI T) (nI r) (nI B) (nI t) md x7 x8 x9 x10 kc ks m (nI c) (nI i) tT wS rL sg rC gR hd lW lv oN ur cR K V N nx ws fo pr rs fs rc mh := by
  intro m
  induction m with
  | zero => intro c i tT wS rL sg rC gR hd lW lv oN ur cR K V N nx ws fo pr rs fs rc mh _ h; omega
  | succ m ih =>
    intro c i tT wS rL sg rC gR hd lW lv oN ur cR K V N nx ws fo pr rs fs rc mh hi hm I
    have I2 := I
    obtain ⟨R, h, rn, w, wr, lW', K', V', N', nx', ws', fo', pr', rs', fs', rc', mh', ins', HC, HF, HK, _⟩ := I2
    have hh := ps_hN HC
    refine ps_if (d := t ≤ i) (nI_leI (by omega) (by omega)) (fun _ => Exists.intro 42 (qs_236F hL hB hh.1 h9 hJ I)) (fun z => ?_)
    have E : wL_law_188 post L xs J46 (wL_law_157 post L xs J46 (nI T) (nI r) (nI B) (nI t) md x7 x8 x9 x10 kc ks m) (nI T) (nI r) (nI B) (nI t) md x7 x8 x9 x10 (nI c) (nI i) kc ks tT wS rL sg rC gR hd lW lv oN ur cR K V N nx ws fo pr rs fs rc mh := by
      refine qs_c hL (by omega) (qs_ix B c) (qs_k (qs_v (qs_put I rfl rfl (fun _ u' I' => ?_) (fun _ => ?_))))
      · obtain ⟨tT', wS', rL', sg', rC', gR', hd', lW', lv', oN', ur', cR', K', V', N', nx', ws', fo', pr', rs', fs', rc', mh'⟩ := u'
        exact br_t rfl (nm_r (nI_1 c) (nm_r (nI_1 i) (ih (c + 1) (i + 1) tT' wS' rL' sg' rC' gR' hd' lW' lv' oN' ur' cR' K' V' N' nx' ws' fo' pr' rs' fs' rc' mh' (by omega) (by omega) I')))
      · exact br_f (by decide) (nm_r (nI_1 i) (ih c (i + 1) tT wS rL sg rC gR hd lW lv oN ur cR K V N nx ws fo pr rs fs rc mh (by omega) (by omega) I))
    exact br_c (fun _ => E) (fun _ => br_c (fun _ => qs_readF I (qs_rewF I E)) (fun _ => E))
theorem qs_134 {post : Int32 → Prop} {L : Nat} {xs : Nat → Int32} {J46 : Int32 → Int32 → Int32 → Int32 → Int32 → Int32 → Int32 → Int32 → Int32 → Int32 → Int32 → Int32 → Int32 → (Nat → Int32) → (Nat → Int32) → (Nat → Int32) → (Nat → Int32) → (Nat → Int32) → (Nat → Int32) → (Nat → Int32) → (Nat → Int32) → (Nat → Int32) → (Nat → Int32) → (Nat → Int32) → Prop} {x7 x8 x9 md : Int32} {kc ks T W A B r t : Nat} {tT wS rL sg rC gR hd lW lv oN ur cR : Int32} {K V N nx ws fo pr rs fs rc mh : Nat → Int32} (hL : L ≤ 260) (hB : B ≤ 1000) (ht : t ≤ 64) (h9 : qs_st x9)
    (hJ : ∀ (tT' wS' rL' sg' rC' gR' hd' lW' lv' oN' ur' cR' : Int32) (K' V' N' nx' ws' fo' pr' rs' fs' rc' mh' : Nat → Int32), (∀ ky' vl', qs_F T W A 0 ky' vl' (tT', wS', rL', sg', rC', gR', hd', lW', lv', oN', ur', cR', K', V', N', nx', ws', fo', pr', rs', fs', rc', mh')) → J46 (nI (r + 1)) tT' wS' rL' sg' rC' gR' hd' lW' lv' oN' ur' cR' K' V' N' nx' ws' fo' pr' rs' fs' rc' mh') (I : qs_F T W A 0 (qs_ky L xs B md) (qs_vl L xs B) (tT, wS, rL, sg, rC, gR, hd, lW, lv, oN, ur, cR, K, V, N, nx, ws, fo, pr, rs, fs, rc, mh)) :
    wL_law_134 post L xs J46 (nI T) (nI r) (nI B) (nI t) md x7 x8 x9 kc ks tT wS rL sg rC gR hd lW lv oN ur cR K V N nx ws fo pr rs fs rc mh := by
  refine br_c (fun _ => Exists.intro (t + 1) (qs_157 hL hB ht h9 hJ (t + 1) 0 0 tT wS rL sg rC gR hd lW lv oN ur cR K V N nx ws fo pr rs fs rc mh (by omega) (by omega) I)) (fun _ => Exists.intro (t + 1) (qs_157 hL hB ht h9 hJ (t + 1) 0 0 tT wS rL sg rC gR hd lW lv oN ur cR K V N nx ws fo pr rs fs rc mh (by omega) (by omega) I))
theorem qs_46 {post : Int32 → Prop} {L : Nat} {xs : Nat → Int32} {kc ks T W A : Nat} (hL : L ≤ 260) (hp : post 1) :
    ∀ (m r : Nat) (tT wS rL sg rC gR hd lW lv oN ur cR : Int32) (K V N nx ws fo pr rs fs rc mh : Nat → Int32), r ≤ 3 → 3 - r < m → (∀ ky vl, qs_F T W A 0 ky vl (tT, wS, rL, sg, rC, gR, hd, lW, lv, oN, ur, cR, K, V, N, nx, ws, fo, pr, rs, fs, rc, mh)) → wL_law_46 post L xs (nI T) kc ks m (nI r) tT wS rL sg rC gR hd lW lv oN ur cR K V N nx ws fo pr rs fs rc mh := by
  intro m
  induction m with
  | zero => intro r tT wS rL sg rC gR hd lW lv oN ur cR K V N nx ws fo pr rs fs rc mh _ h; omega
  | succ m ih =>
    intro r tT wS rL sg rC gR hd lW lv oN ur cR K V N nx ws fo pr rs fs rc mh hr hm I
    refine ps_if (d := 3 ≤ r) (nI_leI (a := 3) (by omega) (by omega)) (fun _ => hp) (fun z => ?_)
    have eB : 3 + 68 * nI r = nI (3 + 68 * r) := by
      have h1 : (68 : Int32) * nI r = nI (68 * r) := pk_mul 68 r
      have h2 : (3 : Int32) + nI (68 * r) = nI (3 + 68 * r) := nI_add 3 (68 * r)
      rw [h1, h2]
    refine nm_r eB ?_
    have hB : 3 + 68 * r ≤ 1000 := by omega
    generalize hBe : 3 + 68 * r = B at hB ⊢
    refine qs_c hL (by omega) rfl ?_
    obtain ⟨j, hj, M⟩ := qs_md (qs_cell L xs B) (m := 65) (by omega) (by omega)
    refine M _ (nm_r (pk_sub (a := 64) (b := j) (by omega)) ?_)
    refine qs_c hL (by omega) (nI_add B 1) ?_
    obtain ⟨j2, hj2, M2⟩ := qs_md ((qs_cell L xs (B + 1) &&& 65535) + nI r) (m := 5) (by omega) (by omega)
    refine M2 _ ?_
    refine qs_c hL (by omega) (nI_add B 2) ?_
    refine qs_c hL (by omega) (nI_add B 3) ?_
    have nxt : ∀ (tT' wS' rL' sg' rC' gR' hd' lW' lv' oN' ur' cR' : Int32) (K' V' N' nx' ws' fo' pr' rs' fs' rc' mh' : Nat → Int32), (∀ ky' vl', qs_F T W A 0 ky' vl' (tT', wS', rL', sg', rC', gR', hd', lW', lv', oN', ur', cR', K', V', N', nx', ws', fo', pr', rs', fs', rc', mh')) → wL_law_46 post L xs (nI T) kc ks m (nI (r + 1)) tT' wS' rL' sg' rC' gR' hd' lW' lv' oN' ur' cR' K' V' N' nx' ws' fo' pr' rs' fs' rc' mh' := fun tT' wS' rL' sg' rC' gR' hd' lW' lv' oN' ur' cR' K' V' N' nx' ws' fo' pr' rs' fs' rc' mh' I' => ih (r + 1) tT' wS' rL' sg' rC' gR' hd' lW' lv' oN' ur' cR' K' V' N' nx' ws' fo' pr' rs' fs' rc' mh' (by omega) (by omega) I'
    refine br_c (fun _ => ?_) (fun _ => ?_)
    · obtain ⟨p, hp2, ep⟩ := pk_andE (((qs_cell L xs (B + 2)).toUInt32 >>> ((2 : Int32).toUInt32 &&& Int32.toUInt32 31)).toInt32) (m := 7) 3 (by decide)
      exact qs_134 hL hB (by omega) (Or.inr ⟨p, by omega, ep⟩) nxt (I _ _)
    · exact qs_134 hL hB (by omega) (Or.inl rfl) nxt (I _ _)
theorem qs_cl {post : Int32 → Prop} {v a b : Nat} (h1 : a ≤ v) (h2 : v ≤ b) (hb : b < 1000) (h : post (nI v)) : wpX_clamp post () (nI v) (nI a) (nI b) :=
  br_t (nI_le h1 (by omega)) (br_t (nI_le h2 (by omega)) h)
theorem i_vc (xs : Nat → Int32) (L : Nat) (hL : L ≤ 260) : wpL_law (fun r => r = 1) L xs := by
  refine qs_c hL (k := 0) (by omega) rfl ?_
  obtain ⟨t, ht, et⟩ := pk_andE (qs_cell L xs 0) (m := 1) 1 (by decide)
  have eT : 3 + (qs_cell L xs 0 &&& 1) = nI (3 + t) := by
    rw [et]; exact nI_add 3 t
  refine nm_r eT ?_
  refine qs_c hL (k := 1) (by omega) rfl ?_
  obtain ⟨j, hj, M⟩ := qs_md (qs_cell L xs 1) (m := 7) (by omega) (by omega)
  refine M _ ?_
  refine qs_c hL (k := 2) (by omega) rfl ?_
  obtain ⟨j2, hj2, M2⟩ := qs_md (qs_cell L xs 2) (m := 57) (by omega) (by omega)
  refine M2 _ ?_
  have hT : ps_T34 (3 + t) := by unfold ps_T34; omega
  have eW : 2 + nI j = nI (2 + j) := nI_add 2 j
  have eA : 64 - nI j2 = nI (64 - j2) := pk_sub (a := 64) (by omega)
  rw [eW, eA]
  refine ⟨11, 472, by omega, by omega, ?_⟩
  refine ⟨by omega, by omega, by omega, by omega, by omega, by omega, by omega, by omega, by omega, by omega, by omega, by omega, by omega, by omega, by omega, by omega, by omega, by omega, by omega, by omega, by omega, by omega, ?_⟩
  refine qs_cl (a := 3) (b := 4) (by omega) (by omega) (by omega) (qs_cl (a := 2) (b := 8) (by omega) (by omega) (by omega) (qs_cl (a := 8) (b := 64) (by omega) (by omega) (by omega) ?_))
  refine Exists.intro 4 (qs_46 (post := fun r => r = 1) (T := 3 + t) (W := 2 + j) (A := 64 - j2) hL rfl 4 0 _ _ _ _ _ _ _ _ _ _ _ _ _ _ _ _ _ _ _ _ _ _ _ (by omega) (by omega) (fun ky vl => ?_))
  exact qs_fresh hT (by omega) (by omega) (by omega) (by omega) ky vl
end
