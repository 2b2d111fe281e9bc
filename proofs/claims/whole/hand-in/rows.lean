section
/-! pasted from the kit's rows (PURE-ROWS): pk_us pk_un pk_sub pk_m1 pk_mul pk_div pk_rem -/
theorem pk_us {f : Nat → Int32} {k : Nat} {x : Int32} : upd f k x k = x := if_pos rfl
theorem pk_un {f : Nat → Int32} {k j : Nat} {x : Int32} (h : j ≠ k) : upd f k x j = f j := if_neg h
theorem pk_sub {a b : Nat} (h : b ≤ a) : nI a - nI b = nI (a - b) := by
  obtain ⟨c, rfl⟩ : ∃ c, a = c + b := ⟨a - b, by omega⟩
  rw [← nI_add, Int32.add_sub_cancel, Nat.add_sub_cancel]
theorem pk_m1 (n : Nat) : nI (n + 1) + (-1) = nI n := by
  rw [← nI_1, Int32.add_assoc, show (1 : Int32) + (-1) = 0 from rfl, Int32.add_zero]
theorem pk_mul (a b : Nat) : nI a * nI b = nI (a * b) := (Int32.ofNat_mul a b).symm
theorem pk_div {a d : Nat} (ha : a < 2 ^ 31) (h0 : 0 < d) (hd : d < 2 ^ 31) : nI a / nI d = nI (a / d) := by
  apply Int32.toInt_inj.mp
  rw [lg_idiv_nonneg (by rw [nI_toInt ha]; omega) (by rw [nI_toInt hd]; omega), nI_toInt ha, nI_toInt hd, nI_toInt (Nat.lt_of_le_of_lt (Nat.div_le_self a d) ha)]
  first | rfl | exact (Int.natCast_ediv _ _).symm
theorem pk_rem {a d : Nat} (ha : a < 2 ^ 31) (h0 : 0 < d) (hd : d < 2 ^ 31) : nI a - nI a / nI d * nI d = nI (a % d) := by
  rw [pk_div ha h0 hd, pk_mul, pk_sub (Nat.div_mul_le_self a d)]
  exact congrArg nI (by have := Nat.div_add_mod' a d; omega)
end
section
/-! the mathematics of PolyphaseSort without any printed predicate. -/
/-- a strict total order on the origins -/
def ps_T (L : Nat → Nat → Prop) : Prop :=
  (∀ x, ¬ L x x) ∧ (∀ x y z, L x y → L y z → L x z) ∧ (∀ x y, x ≠ y → L x y ∨ L y x)
/-- h names the least of P, or is -1 where there is none -/
def ps_mi (L : Nat → Nat → Prop) (P : Nat → Prop) (h : Int32) : Prop :=
  (h = -1 ∧ ∀ y, ¬ P y) ∨ (∃ x, h = nI x ∧ P x ∧ ∀ y, P y → y = x ∨ L x y)
theorem ps_as {L : Nat → Nat → Prop} (hL : ps_T L) {x y : Nat} (a : L x y) (b : L y x) : False :=
  hL.1 x (hL.2.1 x y x a b)
theorem ps_mi_u {L : Nat → Nat → Prop} {P : Nat → Prop} {h h' : Int32} (hL : ps_T L) (a : ps_mi L P h) (b : ps_mi L P h') : h = h' := by
  rcases a with ⟨e, n⟩ | ⟨x, e, p, m⟩
  · rcases b with ⟨e', n'⟩ | ⟨x', e', p', m'⟩
    · rw [e, e']
    · exact absurd p' (n x')
  · rcases b with ⟨e', n'⟩ | ⟨x', e', p', m'⟩
    · exact absurd p (n' x)
    · rcases m x' p' with q | q
      · rw [e, e', q]
      · rcases m' x p with q' | q'
        · rw [e, e', q']
        · exact (ps_as hL q q').elim
theorem ps_mi_c {L : Nat → Nat → Prop} {P Q : Nat → Prop} {h : Int32} (e : ∀ y, P y ↔ Q y) (a : ps_mi L P h) : ps_mi L Q h := by
  rcases a with ⟨e0, n⟩ | ⟨x, ex, p, m⟩
  · exact Or.inl ⟨e0, fun y hy => n y ((e y).2 hy)⟩
  · exact Or.inr ⟨x, ex, (e x).1 p, fun y hy => m y ((e y).2 hy)⟩
/-- the same elements, and an order that agrees on them -/
theorem ps_mi_l {L L' : Nat → Nat → Prop} {P Q : Nat → Prop} {h : Int32} (e : ∀ y, P y ↔ Q y) (eL : ∀ x y, P x → P y → L x y → L' x y) (a : ps_mi L P h) : ps_mi L' Q h := by
  rcases a with ⟨e0, n⟩ | ⟨x, ex, p, m⟩
  · exact Or.inl ⟨e0, fun y hy => n y ((e y).2 hy)⟩
  · refine Or.inr ⟨x, ex, (e x).1 p, fun y hy => ?_⟩
    rcases m y ((e y).2 hy) with q | q
    · exact Or.inl q
    · exact Or.inr (eL x y p ((e y).2 hy) q)
theorem ps_mi_0 {L : Nat → Nat → Prop} {P : Nat → Prop} (e : ∀ y, ¬ P y) : ps_mi L P (-1) := Or.inl ⟨rfl, e⟩
theorem ps_mi_1 {L : Nat → Nat → Prop} {P : Nat → Prop} (x : Nat) (p : P x) (m : ∀ y, P y → y = x ∨ L x y) : ps_mi L P (nI x) := Or.inr ⟨x, rfl, p, m⟩
/-- an element behind one that is there leaves the least as it is -/
theorem ps_mi_add {L : Nat → Nat → Prop} {P Q : Nat → Prop} {h : Int32} (hL : ps_T L) (a : ps_mi L P h) {l f : Nat} (hl : P l) (hf : L l f) (e : ∀ y, Q y ↔ (P y ∨ y = f)) : ps_mi L Q h := by
  rcases a with ⟨_, n⟩ | ⟨x, ex, p, m⟩
  · exact absurd hl (n l)
  · refine Or.inr ⟨x, ex, (e x).2 (Or.inl p), fun y hy => ?_⟩
    rcases (e y).1 hy with q | q
    · exact m y q
    · right
      rw [q]
      rcases m l hl with r | r
      · rw [← r]; exact hf
      · exact hL.2.1 _ _ _ r hf
theorem ps_ne {x : Nat} (hx : x < 2 ^ 31) : ¬ nI x = -1 := by
  intro h
  have e := congrArg Int32.toInt h
  rw [nI_toInt hx] at e
  have e2 : (-1 : Int32).toInt = -1 := by decide
  rw [e2] at e
  omega
theorem ps_inj {x y : Nat} (hx : x < 2 ^ 31) (hy : y < 2 ^ 31) (h : nI x = nI y) : x = y := (nI_eq hx hy).1 h
/-- by keys, equal keys by origin -/
def ps_L (K : Nat → Int32) (x y : Nat) : Prop := (K x).toInt < (K y).toInt ∨ ((K x).toInt = (K y).toInt ∧ x < y)
theorem ps_L_T (K : Nat → Int32) : ps_T (ps_L K) := by
  refine ⟨fun x h => ?_, fun x y z h h' => ?_, fun x y h => ?_⟩
  · unfold ps_L at h; omega
  · unfold ps_L at *; omega
  · unfold ps_L; omega
/-- by run numbers first -/
def ps_R (rn : Nat → Nat) (L : Nat → Nat → Prop) (x y : Nat) : Prop := rn x < rn y ∨ (rn x = rn y ∧ L x y)
theorem ps_R_T {rn : Nat → Nat} {L : Nat → Nat → Prop} (hL : ps_T L) : ps_T (ps_R rn L) := by
  refine ⟨fun x h => ?_, fun x y z h h' => ?_, fun x y h => ?_⟩
  · rcases h with h | h
    · omega
    · exact hL.1 x h.2
  · rcases h with h | h
    · rcases h' with h' | h'
      · exact Or.inl (by omega)
      · exact Or.inl (by omega)
    · rcases h' with h' | h'
      · exact Or.inl (by omega)
      · exact Or.inr ⟨by omega, hL.2.1 x y z h.2 h'.2⟩
  · by_cases e : rn x = rn y
    · rcases hL.2.2 x y h with q | q
      · exact Or.inl (Or.inr ⟨e, q⟩)
      · exact Or.inr (Or.inr ⟨e.symm, q⟩)
    · by_cases l : rn x < rn y
      · exact Or.inl (Or.inl l)
      · exact Or.inr (Or.inl (by omega))
theorem ps_R_le {rn : Nat → Nat} {L : Nat → Nat → Prop} {x y : Nat} (h : ps_R rn L x y) : rn x ≤ rn y := by
  rcases h with h | h
  · omega
  · omega
theorem ps_R_L {rn : Nat → Nat} {L : Nat → Nat → Prop} {x y : Nat} (h : ps_R rn L x y) (e : rn x = rn y) : L x y := by
  rcases h with h | h
  · omega
  · exact h.2
/-- how many of the first n -/
noncomputable def ps_nP (P : Nat → Prop) : Nat → Nat
  | 0 => 0
  | n + 1 => ps_nP P n + @ite Nat (P n) (Classical.propDecidable _) 1 0
theorem ps_nP_le (P : Nat → Prop) : ∀ n, ps_nP P n ≤ n := by
  intro n
  induction n with
  | zero => exact Nat.le_refl 0
  | succ n ih =>
    unfold ps_nP
    split <;> omega
theorem ps_nP_mono {P Q : Nat → Prop} (h : ∀ x, Q x → P x) : ∀ n, ps_nP Q n ≤ ps_nP P n := by
  intro n
  induction n with
  | zero => exact Nat.le_refl 0
  | succ n ih =>
    unfold ps_nP
    by_cases q : Q n
    · rw [if_pos q, if_pos (h n q)]; omega
    · rw [if_neg q]; omega
theorem ps_nP_lt {P Q : Nat → Prop} {r : Nat} (h : ∀ x, Q x → P x) (p : P r) (q : ¬ Q r) : ∀ n, r < n → ps_nP Q n < ps_nP P n := by
  intro n
  induction n with
  | zero => intro hr; omega
  | succ n ih =>
    intro hr
    unfold ps_nP
    by_cases e : r = n
    · subst e
      have m := ps_nP_mono h r
      rw [if_pos p, if_neg q]; omega
    · have i := ih (by omega)
      by_cases qn : Q n
      · rw [if_pos qn, if_pos (h n qn)]; omega
      · rw [if_neg qn]; omega
theorem ps_nP_0 {P : Nat → Prop} : ∀ n, ps_nP P n = 0 → ∀ x, x < n → ¬ P x := by
  intro n
  induction n with
  | zero => intro _ x hx; omega
  | succ n ih =>
    intro h x hx
    unfold ps_nP at h
    by_cases p : P n
    · rw [if_pos p] at h; omega
    · rw [if_neg p] at h
      by_cases e : x = n
      · subst e; exact p
      · exact ih (by omega) x (by omega)
end
section
/-! replacement selection. wr: the records that have left the workspace. -/
def ps_Feed (c : Nat) (L : Nat → Nat → Prop) (rn : Nat → Nat) (wr : Nat → Prop) (nx fo : Nat → Int32) (lw : Int32) : Prop :=
  (∀ x, wr x → x < c) ∧
  ((lw = -1 ∧ (∀ x, ¬ wr x) ∧ (∀ x, x < c → rn x = 1)) ∨
   (∃ l, lw = nI l ∧ wr l ∧ (∀ x, wr x → x = l ∨ ps_R rn L x l)
      ∧ (∀ x, x < c → ¬ wr x → ps_R rn L l x ∧ rn x ≤ rn l + 1)
      ∧ (∀ r, 1 ≤ r → r ≤ rn l → ps_mi L (fun x => wr x ∧ rn x = r) (fo (r - 1)))
      ∧ (∀ x, wr x → ps_mi L (fun y => wr y ∧ rn y = rn x ∧ L x y) (nx x))))
theorem ps_Feed0 (L : Nat → Nat → Prop) (rn : Nat → Nat) (nx fo : Nat → Int32) : ps_Feed 0 L rn (fun _ => False) nx fo (-1) :=
  ⟨fun _ h => h.elim, Or.inl ⟨rfl, fun _ h => h, fun x h => absurd h (Nat.not_lt_zero x)⟩⟩
/-- the first record of all leaves -/
theorem ps_wo0 {c : Nat} {L : Nat → Nat → Prop} {rn : Nat → Nat} {wr : Nat → Prop} {nx fo : Nat → Int32} {lw : Int32} (hL : ps_T L) (F : ps_Feed c L rn wr nx fo lw) (e : lw = -1) (hc : c < 2 ^ 31) {f : Nat} (hf : f < c) (hm : ∀ y, y < c → ¬ wr y → y = f ∨ ps_R rn L f y) :
    rn f = 1 ∧ ps_Feed c L rn (fun x => wr x ∨ x = f) (upd nx f (-1)) (upd fo (rn f - 1) (nI f)) (nI f) := by
  obtain ⟨wc, h⟩ := F
  rcases h with ⟨_, n, o⟩ | ⟨l, el, hl, _⟩
  · have r1 := o f hf
    refine ⟨r1, ?_, Or.inr ⟨f, rfl, Or.inr rfl, ?_, ?_, ?_, ?_⟩⟩
    · intro x hx
      rcases hx with hx | hx
      · exact wc x hx
      · omega
    · intro x hx
      rcases hx with hx | hx
      · exact absurd hx (n x)
      · exact Or.inl hx
    · intro x hx hw
      have nf : x ≠ f := fun z => hw (Or.inr z)
      rcases hm x hx (n x) with q | q
      · exact absurd q nf
      · exact ⟨q, by rw [o x hx]; omega⟩
    · intro r h1 h2
      have er : r = rn f := by omega
      rw [er]
      have eu : upd fo (rn f - 1) (nI f) (rn f - 1) = nI f := if_pos rfl
      rw [eu]
      refine ps_mi_1 f ⟨Or.inr rfl, rfl⟩ ?_
      intro y hy
      rcases hy.1 with q | q
      · exact absurd q (n y)
      · exact Or.inl q
    · intro x hx
      rcases hx with hx | hx
      · exact absurd hx (n x)
      · subst hx
        have eu : upd nx x (-1) x = -1 := if_pos rfl
        rw [eu]
        refine ps_mi_0 ?_
        intro y hy
        rcases hy.1 with q | q
        · exact n y q
        · rw [q] at hy; exact hL.1 _ hy.2.2
  · exact absurd (el.symm.trans e) (ps_ne (by have := wc l hl; omega))
/-- the first record of the next run leaves -/
theorem ps_woA {c : Nat} {L : Nat → Nat → Prop} {rn : Nat → Nat} {wr : Nat → Prop} {nx fo : Nat → Int32} {l : Nat} (hL : ps_T L) (F : ps_Feed c L rn wr nx fo (nI l)) (hc : c < 2 ^ 31) (hl31 : l < 2 ^ 31) {f : Nat} (hf : f < c) (hw : ¬ wr f) (hm : ∀ y, y < c → ¬ wr y → y = f ∨ ps_R rn L f y) (hr : ¬ rn l = rn f) :
    rn f = rn l + 1 ∧ ps_Feed c L rn (fun x => wr x ∨ x = f) (upd nx f (-1)) (upd fo (rn f - 1) (nI f)) (nI f) := by
  obtain ⟨wc, h⟩ := F
  rcases h with ⟨e, _⟩ | ⟨l', el, hl, hle, hin, hfo, hnx⟩
  · exact absurd e (ps_ne hl31)
  · have e : l = l' := ps_inj hl31 (by have := wc l' hl; omega) el
    subst e
    have hlf := hin f hf hw
    have hge := ps_R_le hlf.1
    have er : rn f = rn l + 1 := by omega
    have hmax : ∀ x, wr x → rn x ≤ rn l := by
      intro x hx
      rcases hle x hx with q | q
      · rw [q]; exact Nat.le_refl _
      · exact ps_R_le q
    refine ⟨er, ?_, Or.inr ⟨f, rfl, Or.inr rfl, ?_, ?_, ?_, ?_⟩⟩
    · intro x hx
      rcases hx with hx | hx
      · exact wc x hx
      · omega
    · intro x hx
      rcases hx with hx | hx
      · right; left; have := hmax x hx; omega
      · exact Or.inl hx
    · intro x hx hw'
      have nf : x ≠ f := fun z => hw' (Or.inr z)
      have nw : ¬ wr x := fun z => hw' (Or.inl z)
      rcases hm x hx nw with q | q
      · exact absurd q nf
      · exact ⟨q, by have := (hin x hx nw).2; omega⟩
    · intro r h1 h2
      by_cases e : r = rn f
      · subst e
        have eu : upd fo (rn f - 1) (nI f) (rn f - 1) = nI f := if_pos rfl
        rw [eu]
        refine ps_mi_1 f ⟨Or.inr rfl, rfl⟩ ?_
        intro y hy
        rcases hy.1 with q | q
        · have := hmax y q; have := hy.2; omega
        · exact Or.inl q
      · have eu : upd fo (rn f - 1) (nI f) (r - 1) = fo (r - 1) := if_neg (by omega)
        rw [eu]
        refine ps_mi_c ?_ (hfo r h1 (by omega))
        intro y
        constructor
        · intro a; exact ⟨Or.inl a.1, a.2⟩
        · intro a
          rcases a.1 with q | q
          · exact ⟨q, a.2⟩
          · exfalso; rw [q] at a; exact e a.2.symm
    · intro x hx
      rcases hx with hx | hx
      · have nf : x ≠ f := fun z => hw (z ▸ hx)
        have eu : upd nx f (-1) x = nx x := if_neg nf
        rw [eu]
        refine ps_mi_c ?_ (hnx x hx)
        intro y
        constructor
        · intro a; exact ⟨Or.inl a.1, a.2⟩
        · intro a
          rcases a.1 with q | q
          · exact ⟨q, a.2⟩
          · exfalso
            have := a.2.1
            rw [q] at this
            have := hmax x hx
            omega
      · subst hx
        have eu : upd nx x (-1) x = -1 := if_pos rfl
        rw [eu]
        refine ps_mi_0 ?_
        intro y hy
        rcases hy.1 with q | q
        · have := hmax y q; have := hy.2.1; omega
        · rw [q] at hy; exact hL.1 _ hy.2.2
/-- a further record of the same run leaves -/
theorem ps_woB {c : Nat} {L : Nat → Nat → Prop} {rn : Nat → Nat} {wr : Nat → Prop} {nx fo : Nat → Int32} {l : Nat} (hL : ps_T L) (F : ps_Feed c L rn wr nx fo (nI l)) (hc : c < 2 ^ 31) (hl31 : l < 2 ^ 31) {f : Nat} (hf : f < c) (hw : ¬ wr f) (hm : ∀ y, y < c → ¬ wr y → y = f ∨ ps_R rn L f y) (hr : rn l = rn f) :
    ps_Feed c L rn (fun x => wr x ∨ x = f) (upd (upd nx l (nI f)) f (-1)) fo (nI f) := by
  obtain ⟨wc, h⟩ := F
  rcases h with ⟨e, _⟩ | ⟨l', el, hl, hle, hin, hfo, hnx⟩
  · exact absurd e (ps_ne hl31)
  · have e : l = l' := ps_inj hl31 (by have := wc l' hl; omega) el
    subst e
    have hR := ps_R_T (rn := rn) hL
    have hlf := (hin f hf hw).1
    have hLf : L l f := ps_R_L hlf hr
    refine ⟨?_, Or.inr ⟨f, rfl, Or.inr rfl, ?_, ?_, ?_, ?_⟩⟩
    · intro x hx
      rcases hx with hx | hx
      · exact wc x hx
      · omega
    · intro x hx
      rcases hx with hx | hx
      · right
        rcases hle x hx with q | q
        · rw [q]; exact hlf
        · exact hR.2.1 _ _ _ q hlf
      · exact Or.inl hx
    · intro x hx hw'
      have nf : x ≠ f := fun z => hw' (Or.inr z)
      have nw : ¬ wr x := fun z => hw' (Or.inl z)
      rcases hm x hx nw with q | q
      · exact absurd q nf
      · exact ⟨q, by have := (hin x hx nw).2; omega⟩
    · intro r h1 h2
      have h := hfo r h1 (by omega)
      by_cases e : r = rn f
      · subst e
        refine ps_mi_add hL h (l := l) (f := f) ⟨hl, hr⟩ hLf ?_
        intro y
        constructor
        · intro a
          rcases a.1 with q | q
          · exact Or.inl ⟨q, a.2⟩
          · exact Or.inr q
        · intro a
          rcases a with a | a
          · exact ⟨Or.inl a.1, a.2⟩
          · exact ⟨Or.inr a, by rw [a]⟩
      · refine ps_mi_c ?_ h
        intro y
        constructor
        · intro a; exact ⟨Or.inl a.1, a.2⟩
        · intro a
          rcases a.1 with q | q
          · exact ⟨q, a.2⟩
          · exfalso; rw [q] at a; exact e a.2.symm
    · intro x hx
      rcases hx with hx | hx
      · have nf : x ≠ f := fun z => hw (z ▸ hx)
        have eu : upd (upd nx l (nI f)) f (-1) x = upd nx l (nI f) x := if_neg nf
        rw [eu]
        by_cases xl : x = l
        · subst xl
          have eu2 : upd nx x (nI f) x = nI f := if_pos rfl
          rw [eu2]
          refine ps_mi_1 f ⟨Or.inr rfl, hr.symm, hLf⟩ ?_
          intro y hy
          rcases hy.1 with q | q
          · exfalso
            rcases hle y q with z | z
            · rw [z] at hy; exact hL.1 _ hy.2.2
            · exact ps_as hL (ps_R_L z hy.2.1) hy.2.2
          · exact Or.inl q
        · have eu2 : upd nx l (nI f) x = nx x := if_neg xl
          rw [eu2]
          by_cases e : rn x = rn f
          · have hxl : L x l := by
              rcases hle x hx with q | q
              · exact absurd q xl
              · exact ps_R_L q (by omega)
            refine ps_mi_add hL (hnx x hx) (l := l) (f := f) ⟨hl, by omega, hxl⟩ hLf ?_
            intro y
            constructor
            · intro a
              rcases a.1 with q | q
              · exact Or.inl ⟨q, a.2⟩
              · exact Or.inr q
            · intro a
              rcases a with a | a
              · exact ⟨Or.inl a.1, a.2⟩
              · rw [a]; exact ⟨Or.inr rfl, e.symm, hL.2.1 _ _ _ hxl hLf⟩
          · refine ps_mi_c ?_ (hnx x hx)
            intro y
            constructor
            · intro a; exact ⟨Or.inl a.1, a.2⟩
            · intro a
              rcases a.1 with q | q
              · exact ⟨q, a.2⟩
              · exfalso; rw [q] at a; exact e a.2.1.symm
      · subst hx
        have eu : upd (upd nx l (nI x)) x (-1) x = -1 := if_pos rfl
        rw [eu]
        refine ps_mi_0 ?_
        intro y hy
        rcases hy.1 with q | q
        · rcases hle y q with z | z
          · rw [z] at hy; exact ps_as hL hLf hy.2.2
          · exact ps_as hL (hL.2.1 _ _ _ (ps_R_L z (by have := hy.2.1; omega)) hLf) hy.2.2
        · rw [q] at hy; exact hL.1 _ hy.2.2
/-- the order and the run numbers may change where there are no records -/
theorem ps_FeedC {c : Nat} {L L' : Nat → Nat → Prop} {rn rn' : Nat → Nat} {wr : Nat → Prop} {nx fo : Nat → Int32} {lw : Int32}
    (eL : ∀ x y, x < c → y < c → (L' x y ↔ L x y)) (er : ∀ x, x < c → rn' x = rn x) (F : ps_Feed c L rn wr nx fo lw) :
    ps_Feed c L' rn' wr nx fo lw := by
  obtain ⟨wc, h⟩ := F
  have tR : ∀ x y, x < c → y < c → ps_R rn L x y → ps_R rn' L' x y := by
    intro x y hx hy h
    rcases h with h | h
    · left; rw [er x hx, er y hy]; exact h
    · right; rw [er x hx, er y hy]; exact ⟨h.1, (eL x y hx hy).2 h.2⟩
  refine ⟨wc, ?_⟩
  rcases h with ⟨e, n, o⟩ | ⟨l, el, hl, hle, hin, hfo, hnx⟩
  · exact Or.inl ⟨e, n, fun x hx => by rw [er x hx]; exact o x hx⟩
  · have lc := wc l hl
    refine Or.inr ⟨l, el, hl, ?_, ?_, ?_, ?_⟩
    · intro x hx
      rcases hle x hx with q | q
      · exact Or.inl q
      · exact Or.inr (tR x l (wc x hx) lc q)
    · intro x hx hw
      have q := hin x hx hw
      exact ⟨tR l x lc hx q.1, by rw [er x hx, er l lc]; exact q.2⟩
    · intro r a b
      rw [er l lc] at b
      refine ps_mi_l ?_ ?_ (hfo r a b)
      · intro y
        constructor
        · intro h; exact ⟨h.1, by rw [er y (wc y h.1)]; exact h.2⟩
        · intro h; refine ⟨h.1, ?_⟩; have := h.2; rw [er y (wc y h.1)] at this; exact this
      · intro x y hx hy h
        exact (eL x y (wc x hx.1) (wc y hy.1)).2 h
    · intro x hx
      refine ps_mi_l ?_ ?_ (hnx x hx)
      · intro y
        constructor
        · intro h
          exact ⟨h.1, by rw [er y (wc y h.1), er x (wc x hx)]; exact h.2.1, (eL x y (wc x hx) (wc y h.1)).2 h.2.2⟩
        · intro h
          refine ⟨h.1, ?_, (eL x y (wc x hx) (wc y h.1)).1 h.2.2⟩
          have := h.2.1
          rw [er y (wc y h.1), er x (wc x hx)] at this
          exact this
      · intro a b ha hb h
        exact (eL a b (wc a ha.1) (wc b hb.1)).2 h
/-- a record arrives -/
theorem ps_add {c : Nat} {L : Nat → Nat → Prop} {rn : Nat → Nat} {wr : Nat → Prop} {nx fo : Nat → Int32} {lw : Int32}
    (F : ps_Feed c L rn wr nx fo lw) (h0 : lw = -1 → rn c = 1) (h1 : ∀ l, lw = nI l → wr l → ps_R rn L l c ∧ rn c ≤ rn l + 1) :
    ps_Feed (c + 1) L rn wr nx fo lw := by
  obtain ⟨wc, h⟩ := F
  refine ⟨fun x hx => Nat.lt_succ_of_lt (wc x hx), ?_⟩
  rcases h with ⟨e, n, o⟩ | ⟨l, el, hl, hle, hin, hfo, hnx⟩
  · refine Or.inl ⟨e, n, fun x hx => ?_⟩
    by_cases xc : x = c
    · rw [xc]; exact h0 e
    · exact o x (by omega)
  · refine Or.inr ⟨l, el, hl, hle, ?_, hfo, hnx⟩
    intro x hx hw
    by_cases xc : x = c
    · rw [xc]; exact h1 l el hl
    · exact hin x (by omega) hw
/-- the cells of the workspace hold just the records that have not left -/
def ps_Ws (c h : Nat) (ws : Nat → Nat) (wr : Nat → Prop) : Prop :=
  (∀ j, j < h → ws j < c ∧ ¬ wr (ws j)) ∧ (∀ i j, i < h → j < h → ws i = ws j → i = j) ∧ (∀ x, x < c → ¬ wr x → ∃ j, j < h ∧ ws j = x)
def ps_un (f : Nat → Nat) (k x : Nat) : Nat → Nat := fun j => if j = k then x else f j
theorem ps_us {f : Nat → Nat} {k x : Nat} : ps_un f k x k = x := if_pos rfl
theorem ps_uo {f : Nat → Nat} {k x j : Nat} (h : j ≠ k) : ps_un f k x j = f j := if_neg h
theorem ps_Ws0 (ws : Nat → Nat) (wr : Nat → Prop) : ps_Ws 0 0 ws wr :=
  ⟨fun j h => absurd h (Nat.not_lt_zero j), fun i _ h => absurd h (Nat.not_lt_zero i), fun x h => absurd h (Nat.not_lt_zero x)⟩
/-- a record is added in a free cell -/
theorem ps_WsA {c h : Nat} {ws : Nat → Nat} {wr : Nat → Prop} (w : ps_Ws c h ws wr) (hc : ∀ x, wr x → x < c) : ps_Ws (c + 1) (h + 1) (ps_un ws h c) wr := by
  obtain ⟨a, i, s⟩ := w
  refine ⟨?_, ?_, ?_⟩
  · intro j hj
    by_cases e : j = h
    · rw [e, ps_us]; exact ⟨by omega, fun z => by have := hc c z; omega⟩
    · rw [ps_uo e]; have := a j (by omega); exact ⟨by omega, this.2⟩
  · intro p q hp hq e
    by_cases ep : p = h
    · by_cases eq : q = h
      · omega
      · rw [ep, ps_us, ps_uo eq] at e; have := (a q (by omega)).1; omega
    · by_cases eq : q = h
      · rw [eq, ps_us, ps_uo ep] at e; have := (a p (by omega)).1; omega
      · rw [ps_uo ep, ps_uo eq] at e; exact i p q (by omega) (by omega) e
  · intro x hx hw
    by_cases e : x = c
    · exact ⟨h, by omega, by rw [ps_us, e]⟩
    · obtain ⟨j, hj, ej⟩ := s x (by omega) hw
      exact ⟨j, by omega, by rw [ps_uo (by omega)]; exact ej⟩
/-- the record in cell b leaves, and the next one takes its cell -/
theorem ps_WsB {c h b : Nat} {ws : Nat → Nat} {wr : Nat → Prop} (w : ps_Ws c h ws wr) (hc : ∀ x, wr x → x < c) (hb : b < h) : ps_Ws (c + 1) h (ps_un ws b c) (fun x => wr x ∨ x = ws b) := by
  obtain ⟨a, i, s⟩ := w
  have bc := (a b hb).1
  refine ⟨?_, ?_, ?_⟩
  · intro j hj
    by_cases e : j = b
    · rw [e, ps_us]
      refine ⟨by omega, fun z => ?_⟩
      rcases z with z | z
      · have := hc c z; omega
      · omega
    · rw [ps_uo e]
      have := a j hj
      refine ⟨by omega, fun z => ?_⟩
      rcases z with z | z
      · exact this.2 z
      · exact e (i j b hj hb z)
  · intro p q hp hq e
    by_cases ep : p = b
    · by_cases eq : q = b
      · omega
      · rw [ep, ps_us, ps_uo eq] at e; have := (a q hq).1; omega
    · by_cases eq : q = b
      · rw [eq, ps_us, ps_uo ep] at e; have := (a p hp).1; omega
      · rw [ps_uo ep, ps_uo eq] at e; exact i p q hp hq e
  · intro x hx hw
    by_cases e : x = c
    · exact ⟨b, hb, by rw [ps_us, e]⟩
    · obtain ⟨j, hj, ej⟩ := s x (by omega) (fun z => hw (Or.inl z))
      have jb : j ≠ b := fun z => hw (Or.inr (by rw [← ej, z]))
      exact ⟨j, hj, by rw [ps_uo jb]; exact ej⟩
/-- the record in cell b leaves, and the last cell's record takes its cell -/
theorem ps_WsC {c h b : Nat} {ws : Nat → Nat} {wr : Nat → Prop} (w : ps_Ws c (h + 1) ws wr) (hb : b < h + 1) : ps_Ws c h (ps_un ws b (ws h)) (fun x => wr x ∨ x = ws b) := by
  obtain ⟨a, i, s⟩ := w
  refine ⟨?_, ?_, ?_⟩
  · intro j hj
    by_cases e : j = b
    · rw [e, ps_us]
      have := a h (by omega)
      refine ⟨this.1, fun z => ?_⟩
      rcases z with z | z
      · exact this.2 z
      · have := i h b (by omega) hb z; omega
    · rw [ps_uo e]
      have := a j (by omega)
      refine ⟨this.1, fun z => ?_⟩
      rcases z with z | z
      · exact this.2 z
      · exact e (i j b (by omega) hb z)
  · intro p q hp hq e
    by_cases ep : p = b
    · by_cases eq : q = b
      · omega
      · rw [ep, ps_us, ps_uo eq] at e; have := i h q (by omega) (by omega) e; omega
    · by_cases eq : q = b
      · rw [eq, ps_us, ps_uo ep] at e; have := i p h (by omega) (by omega) e; omega
      · rw [ps_uo ep, ps_uo eq] at e; exact i p q (by omega) (by omega) e
  · intro x hx hw
    obtain ⟨j, hj, ej⟩ := s x hx (fun z => hw (Or.inl z))
    have jb : j ≠ b := fun z => hw (Or.inr (by rw [← ej, z]))
    by_cases e : j = h
    · exact ⟨b, by omega, by rw [ps_us, ← e]; exact ej⟩
    · exact ⟨j, by omega, by rw [ps_uo jb]; exact ej⟩
/-- the run numbers: at most half of the records, and one -/
def ps_Rn (c R : Nat) (rn : Nat → Nat) : Prop :=
  (∀ x, x < c → 1 ≤ rn x ∧ rn x ≤ R) ∧ (c = 0 → R = 0) ∧ (0 < c → ∃ x, x < c ∧ rn x = R) ∧ 2 * R ≤ c + 1 ∧ (∀ i, i + 1 < c → rn i = R → 2 * R ≤ c)
theorem ps_Rn0 (rn : Nat → Nat) : ps_Rn 0 0 rn :=
  ⟨fun x h => absurd h (Nat.not_lt_zero x), fun _ => rfl, fun h => absurd h (Nat.lt_irrefl 0), by omega, fun i h => absurd h (Nat.not_lt_zero _)⟩
/-- a record of a run that is there already -/
theorem ps_RnA {c R : Nat} {rn rn' : Nat → Nat} (h : ps_Rn c R rn) (e : ∀ x, x < c → rn' x = rn x) (h0 : 1 ≤ rn' c) (h1 : rn' c ≤ R) : ps_Rn (c + 1) R rn' := by
  obtain ⟨a, z, s, b, d⟩ := h
  refine ⟨?_, by omega, ?_, by omega, ?_⟩
  · intro x hx
    by_cases xc : x = c
    · rw [xc]; exact ⟨h0, h1⟩
    · rw [e x (by omega)]; exact a x (by omega)
  · intro _
    by_cases c0 : c = 0
    · have := z c0; omega
    · obtain ⟨x, hx, ex⟩ := s (by omega)
      exact ⟨x, by omega, by rw [e x hx]; exact ex⟩
  · intro i hi _; omega
/-- the first record of all, or of the next run: two records of run R are there -/
theorem ps_RnB {c R : Nat} {rn rn' : Nat → Nat} (h : ps_Rn c R rn) (e : ∀ x, x < c → rn' x = rn x) (h1 : rn' c = R + 1) (h2 : c = 0 ∨ ∃ i j, i < c ∧ j < c ∧ i ≠ j ∧ rn i = R ∧ rn j = R) : ps_Rn (c + 1) (R + 1) rn' := by
  obtain ⟨a, z, s, b, d⟩ := h
  have hb : 2 * R ≤ c := by
    rcases h2 with h2 | ⟨i, j, hi, hj, ne, ei, ej⟩
    · have := z h2; omega
    · by_cases q : i + 1 < c
      · exact d i q ei
      · exact d j (by omega) ej
  refine ⟨?_, by omega, fun _ => ⟨c, by omega, h1⟩, by omega, ?_⟩
  · intro x hx
    by_cases xc : x = c
    · rw [xc, h1]; omega
    · rw [e x (by omega)]; have := a x (by omega); omega
  · intro i hi ei
    rw [e i (by omega)] at ei
    have := a i (by omega)
    omega
end
section
/-! the tapes. A slot is tape * 32 + place; rc: how many runs a tape holds; fs: the place of its first. -/
def ps_live (fs rc : Nat → Nat) (s : Nat) : Prop := s < 128 ∧ (s % 32 + 32 - fs (s / 32)) % 32 < rc (s / 32)
/-- every record has a live slot as its owner; the chains are the owners' records in order -/
def ps_Own (c : Nat) (L : Nat → Nat → Prop) (own : Nat → Nat) (live : Nat → Prop) (nx rs : Nat → Int32) : Prop :=
  (∀ x, x < c → live (own x)) ∧ (∀ s, live s → ps_mi L (fun x => x < c ∧ own x = s) (rs s)) ∧ (∀ x, x < c → ps_mi L (fun y => y < c ∧ own y = own x ∧ L x y) (nx x))
/-- the distribution, when w runs are written: sl r is run r's slot -/
def ps_Dist (c : Nat) (L : Nat → Nat → Prop) (rn : Nat → Nat) (w : Nat) (sl fs rc : Nat → Nat) (rs : Nat → Int32) : Prop :=
  (∀ r, 1 ≤ r → r ≤ w → ps_live fs rc (sl r)) ∧ (∀ p q, 1 ≤ p → p ≤ w → 1 ≤ q → q ≤ w → sl p = sl q → p = q) ∧ (∀ s, ps_live fs rc s → ps_mi L (fun x => x < c ∧ rn x ≤ w ∧ sl (rn x) = s) (rs s))
theorem ps_Dist0 (c : Nat) (L : Nat → Nat → Prop) (rn sl fs rc : Nat → Nat) (rs : Nat → Int32) (h0 : ∀ t, t < 4 → rc t = 0) : ps_Dist c L rn 0 sl fs rc rs :=
  ⟨fun r a b => by omega, fun p q a b _ _ _ => by omega, fun s h => by
    have h2 := h.2
    rw [h0 (s / 32) (by have := h.1; omega)] at h2
    exact absurd h2 (Nat.not_lt_zero _)⟩
theorem ps_liveU {fs rc : Nat → Nat} {t s : Nat} (h0 : ∀ t, t < 4 → fs t = 0) (ht : t < 4) (hr : rc t < 32) : ps_live fs (ps_un rc t (rc t + 1)) s ↔ (ps_live fs rc s ∨ s = t * 32 + rc t) := by
  unfold ps_live
  by_cases q : s / 32 = t
  · rw [q, ps_us, h0 t ht]; constructor
    · intro h; omega
    · intro h; omega
  · rw [ps_uo q]; constructor
    · intro h; exact Or.inl h
    · intro h
      rcases h with h | h
      · exact h
      · omega
theorem ps_liveN {fs rc : Nat → Nat} {t : Nat} (h0 : ∀ t, t < 4 → fs t = 0) (ht : t < 4) (hr : rc t < 32) : ¬ ps_live fs rc (t * 32 + rc t) := by
  intro h
  have h2 := h.2
  have e : (t * 32 + rc t) / 32 = t := by omega
  rw [e, h0 t ht] at h2
  omega
/-- a dummy run is appended -/
theorem ps_DistD {c w t : Nat} {L : Nat → Nat → Prop} {rn sl fs rc : Nat → Nat} {rs : Nat → Int32} (D : ps_Dist c L rn w sl fs rc rs) (h1 : ∀ x, x < c → 1 ≤ rn x) (h0 : ∀ t, t < 4 → fs t = 0) (ht : t < 4) (hr : rc t < 32) : ps_Dist c L rn w sl fs (ps_un rc t (rc t + 1)) (upd rs (t * 32 + rc t) (-1)) := by
  obtain ⟨a, i, m⟩ := D
  refine ⟨fun r p q => (ps_liveU h0 ht hr).2 (Or.inl (a r p q)), i, fun s hs => ?_⟩
  by_cases e : s = t * 32 + rc t
  · have eu : upd rs (t * 32 + rc t) (-1) s = -1 := if_pos e
    rw [eu]
    refine ps_mi_0 ?_
    intro y hy
    have l := a (rn y) (h1 y hy.1) hy.2.1
    rw [hy.2.2, e] at l
    exact ps_liveN h0 ht hr l
  · have eu : upd rs (t * 32 + rc t) (-1) s = rs s := if_neg e
    rw [eu]
    rcases (ps_liveU h0 ht hr).1 hs with q | q
    · exact m s q
    · exact absurd q e
/-- run w + 1 is appended -/
theorem ps_DistR {c w t : Nat} {L : Nat → Nat → Prop} {rn sl fs rc : Nat → Nat} {rs : Nat → Int32} {h : Int32} (D : ps_Dist c L rn w sl fs rc rs) (h1 : ∀ x, x < c → 1 ≤ rn x) (h0 : ∀ t, t < 4 → fs t = 0) (ht : t < 4) (hr : rc t < 32) (hh : ps_mi L (fun x => x < c ∧ rn x = w + 1) h) :
    ps_Dist c L rn (w + 1) (ps_un sl (w + 1) (t * 32 + rc t)) fs (ps_un rc t (rc t + 1)) (upd rs (t * 32 + rc t) h) := by
  obtain ⟨a, i, m⟩ := D
  refine ⟨?_, ?_, ?_⟩
  · intro r p q
    by_cases e : r = w + 1
    · rw [e, ps_us]; exact (ps_liveU h0 ht hr).2 (Or.inr rfl)
    · rw [ps_uo e]; exact (ps_liveU h0 ht hr).2 (Or.inl (a r p (by omega)))
  · intro p q p1 pw q1 qw e
    by_cases ep : p = w + 1
    · by_cases eq : q = w + 1
      · omega
      · rw [ep, ps_us, ps_uo eq] at e
        have l := a q q1 (by omega)
        rw [← e] at l
        exact absurd l (ps_liveN h0 ht hr)
    · by_cases eq : q = w + 1
      · rw [eq, ps_us, ps_uo ep] at e
        have l := a p p1 (by omega)
        rw [e] at l
        exact absurd l (ps_liveN h0 ht hr)
      · rw [ps_uo ep, ps_uo eq] at e
        exact i p q p1 (by omega) q1 (by omega) e
  · intro s hs
    by_cases e : s = t * 32 + rc t
    · have eu : upd rs (t * 32 + rc t) h s = h := if_pos e
      rw [eu]
      refine ps_mi_c ?_ hh
      intro y
      constructor
      · intro z
        refine ⟨z.1, by omega, ?_⟩
        rw [z.2, ps_us]; exact e.symm
      · intro z
        refine ⟨z.1, ?_⟩
        by_cases ew : rn y = w + 1
        · exact ew
        · exfalso
          have z2 := z.2.2
          rw [ps_uo ew, e] at z2
          have l := a (rn y) (h1 y z.1) (by have := z.2.1; omega)
          rw [z2] at l
          exact ps_liveN h0 ht hr l
    · have eu : upd rs (t * 32 + rc t) h s = rs s := if_neg e
      rw [eu]
      rcases (ps_liveU h0 ht hr).1 hs with q | q
      · refine ps_mi_c ?_ (m s q)
        intro y
        constructor
        · intro z
          refine ⟨z.1, by have := z.2.1; omega, ?_⟩
          rw [ps_uo (by have := z.2.1; omega)]; exact z.2.2
        · intro z
          by_cases ew : rn y = w + 1
          · exfalso
            have z2 := z.2.2
            rw [ew, ps_us] at z2
            exact e z2.symm
          · refine ⟨z.1, by have := z.2.1; omega, ?_⟩
            have z2 := z.2.2
            rw [ps_uo ew] at z2
            exact z2
      · exact absurd q e
/-- all runs are written: the records' owners -/
theorem ps_DistE {c R : Nat} {L : Nat → Nat → Prop} {rn sl fs rc : Nat → Nat} {rs nx : Nat → Int32} (D : ps_Dist c L rn R sl fs rc rs) (h1 : ∀ x, x < c → 1 ≤ rn x ∧ rn x ≤ R) (hn : ∀ x, x < c → ps_mi L (fun y => y < c ∧ rn y = rn x ∧ L x y) (nx x)) : ps_Own c L (fun x => sl (rn x)) (ps_live fs rc) nx rs := by
  obtain ⟨a, i, m⟩ := D
  refine ⟨fun x hx => a _ (h1 x hx).1 (h1 x hx).2, fun s hs => ?_, fun x hx => ?_⟩
  · refine ps_mi_c ?_ (m s hs)
    intro y
    exact ⟨fun z => ⟨z.1, z.2.2⟩, fun z => ⟨z.1, (h1 y z.1).2, z.2⟩⟩
  · refine ps_mi_c ?_ (hn x hx)
    intro y
    constructor
    · intro z; exact ⟨z.1, by show sl (rn y) = sl (rn x); rw [z.2.1], z.2.2⟩
    · intro z; exact ⟨z.1, i _ _ (h1 y z.1).1 (h1 y z.1).2 (h1 x hx).1 (h1 x hx).2 z.2.1, z.2.2⟩
/-! merging: U t x says that x is a record of the run taken from tape t -/
def ps_Un (T : Nat) (U : Nat → Nat → Prop) (x : Nat) : Prop := ∃ t, t < T ∧ U t x
def ps_MI (T : Nat) (L : Nat → Nat → Prop) (U : Nat → Nat → Prop) (nx0 mh nx : Nat → Int32) (fi la : Int32) : Prop :=
  (la = -1 ∧ fi = -1 ∧ nx = nx0 ∧ ∀ t, t < T → ps_mi L (U t) (mh t)) ∨
  (∃ l, la = nI l ∧ ps_Un T U l ∧ ps_mi L (ps_Un T U) fi ∧ (∀ t, t < T → ps_mi L (fun x => U t x ∧ L l x) (mh t))
    ∧ (∀ x, ps_Un T U x → L x l → ps_mi L (fun y => ps_Un T U y ∧ L x y) (nx x)) ∧ (∀ x, ¬ (ps_Un T U x ∧ L x l) → nx x = nx0 x))
/-- the records that are still to come -/
def ps_rem (T : Nat) (L : Nat → Nat → Prop) (U : Nat → Nat → Prop) (la : Int32) (x : Nat) : Prop := ps_Un T U x ∧ (la = -1 ∨ ∃ l, la = nI l ∧ l < 2 ^ 31 ∧ L l x)
def ps_Ud (T : Nat) (U : Nat → Nat → Prop) : Prop := (∀ t x, t < T → U t x → x < 64) ∧ (∀ t t' x, t < T → t' < T → U t x → U t' x → t = t')
/-- the first turn -/
theorem ps_M1 {T : Nat} {L : Nat → Nat → Prop} {U : Nat → Nat → Prop} {nx0 mh : Nat → Int32} (hL : ps_T L) (hU : ps_Ud T U) (hn : ∀ t x, t < T → U t x → ps_mi L (fun y => U t y ∧ L x y) (nx0 x)) (hm : ∀ t, t < T → ps_mi L (U t) (mh t)) {b r : Nat} (hb : b < T) (hr : U b r) (hle : ∀ x, ps_Un T U x → x = r ∨ L r x) :
    ps_MI T L U nx0 (upd mh b (nx0 r)) nx0 (nI r) (nI r) := by
  refine Or.inr ⟨r, rfl, ⟨b, hb, hr⟩, ps_mi_1 r ⟨b, hb, hr⟩ hle, ?_, ?_, fun x _ => rfl⟩
  · intro t ht
    by_cases e : t = b
    · have eu : upd mh b (nx0 r) t = nx0 r := if_pos e
      rw [eu, e]; exact hn b r hb hr
    · have eu : upd mh b (nx0 r) t = mh t := if_neg e
      rw [eu]
      refine ps_mi_c ?_ (hm t ht)
      intro y
      constructor
      · intro z
        refine ⟨z, ?_⟩
        rcases hle y ⟨t, ht, z⟩ with q | q
        · rw [q] at z; exact absurd (hU.2 t b r ht hb z hr) e
        · exact q
      · intro z; exact z.1
  · intro x hx h
    rcases hle x hx with q | q
    · rw [q] at h; exact absurd h (hL.1 r)
    · exact (ps_as hL h q).elim
/-- a further turn -/
theorem ps_M2 {T : Nat} {L : Nat → Nat → Prop} {U : Nat → Nat → Prop} {nx0 mh nx : Nat → Int32} {fi : Int32} {l : Nat} (hL : ps_T L) (hU : ps_Ud T U) (hn : ∀ t x, t < T → U t x → ps_mi L (fun y => U t y ∧ L x y) (nx0 x))
    (hl : ps_Un T U l) (hf : ps_mi L (ps_Un T U) fi) (hm : ∀ t, t < T → ps_mi L (fun x => U t x ∧ L l x) (mh t))
    (hd : ∀ x, ps_Un T U x → L x l → ps_mi L (fun y => ps_Un T U y ∧ L x y) (nx x)) (hk : ∀ x, ¬ (ps_Un T U x ∧ L x l) → nx x = nx0 x)
    {b r : Nat} (hb : b < T) (hr : U b r) (hlr : L l r) (hle : ∀ x, ps_Un T U x → L l x → x = r ∨ L r x) :
    ps_MI T L U nx0 (upd mh b (nx r)) (upd nx l (nI r)) fi (nI r) := by
  have er : nx r = nx0 r := hk r (fun z => ps_as hL z.2 hlr)
  refine Or.inr ⟨r, rfl, ⟨b, hb, hr⟩, hf, ?_, ?_, ?_⟩
  · intro t ht
    by_cases e : t = b
    · have eu : upd mh b (nx r) t = nx r := if_pos e
      rw [eu, e, er]; exact hn b r hb hr
    · have eu : upd mh b (nx r) t = mh t := if_neg e
      rw [eu]
      refine ps_mi_c ?_ (hm t ht)
      intro y
      constructor
      · intro z
        refine ⟨z.1, ?_⟩
        rcases hle y ⟨t, ht, z.1⟩ z.2 with q | q
        · rw [q] at z; exact absurd (hU.2 t b r ht hb z.1 hr) e
        · exact q
      · intro z; exact ⟨z.1, hL.2.1 _ _ _ hlr z.2⟩
  · intro x hx h
    by_cases e : x = l
    · have eu : upd nx l (nI r) x = nI r := if_pos e
      rw [eu, e]
      refine ps_mi_1 r ⟨⟨b, hb, hr⟩, hlr⟩ ?_
      intro y hy; exact hle y hy.1 hy.2
    · have eu : upd nx l (nI r) x = nx x := if_neg e
      rw [eu]
      refine hd x hx ?_
      rcases hL.2.2 x l e with q | q
      · exact q
      · rcases hle x hx q with z | z
        · rw [z] at h; exact absurd h (hL.1 r)
        · exact (ps_as hL h z).elim
  · intro x hx
    have e : x ≠ l := fun z => hx (z ▸ ⟨hl, hlr⟩)
    have eu : upd nx l (nI r) x = nx x := if_neg e
    rw [eu]
    refine hk x (fun z => hx ⟨z.1, hL.2.1 _ _ _ z.2 hlr⟩)
/-- nothing is left -/
theorem ps_ME {T : Nat} {L : Nat → Nat → Prop} {U : Nat → Nat → Prop} {nx0 mh nx : Nat → Int32} {fi la : Int32} (hL : ps_T L) (hU : ps_Ud T U) (hn : ∀ t x, t < T → U t x → ps_mi L (fun y => U t y ∧ L x y) (nx0 x))
    (I : ps_MI T L U nx0 mh nx fi la) (h0 : ∀ x, x < 64 → ¬ ps_rem T L U la x) :
    ps_mi L (ps_Un T U) fi ∧ (∀ x, ps_Un T U x → ps_mi L (fun y => ps_Un T U y ∧ L x y) (nx x)) ∧ (∀ x, ¬ ps_Un T U x → nx x = nx0 x) := by
  have lt : ∀ x, ps_Un T U x → x < 64 := fun x ⟨t, ht, h⟩ => hU.1 t x ht h
  rcases I with ⟨el, ef, en, hm⟩ | ⟨l, el, hl, hf, hm, hd, hk⟩
  · have no : ∀ x, ¬ ps_Un T U x := fun x hx => h0 x (lt x hx) ⟨hx, Or.inl el⟩
    refine ⟨ef ▸ ps_mi_0 no, fun x hx => absurd hx (no x), fun x _ => by rw [en]⟩
  · have no : ∀ x, ps_Un T U x → ¬ L l x := fun x hx h => h0 x (lt x hx) ⟨hx, Or.inr ⟨l, el, by have := lt l hl; omega, h⟩⟩
    refine ⟨hf, ?_, fun x hx => hk x (fun z => hx z.1)⟩
    intro x hx
    by_cases e : x = l
    · rw [e]
      have el2 : nx l = nx0 l := hk l (fun z => hL.1 l z.2)
      obtain ⟨t, ht, hlt⟩ := hl
      have q := hn t l ht hlt
      rw [el2]
      refine ps_mi_c ?_ q
      intro y
      constructor
      · intro z; exact absurd z.2 (no y ⟨t, ht, z.1⟩)
      · intro z; exact absurd z.2 (no y z.1)
    · rcases hL.2.2 x l e with q | q
      · exact hd x hx q
      · exact absurd q (no x hx)
noncomputable def ps_ow (T : Nat) (U : Nat → Nat → Prop) (Z : Nat) (own : Nat → Nat) (x : Nat) : Nat := @ite Nat (ps_Un T U x) (Classical.propDecidable _) Z (own x)
theorem ps_ow_t {T : Nat} {U : Nat → Nat → Prop} {Z : Nat} {own : Nat → Nat} {x : Nat} (h : ps_Un T U x) : ps_ow T U Z own x = Z := if_pos h
theorem ps_ow_f {T : Nat} {U : Nat → Nat → Prop} {Z : Nat} {own : Nat → Nat} {x : Nat} (h : ¬ ps_Un T U x) : ps_ow T U Z own x = own x := if_neg h
/-- the owners after a merge: Z is the slot of the merged run, Rm are the slots taken -/
theorem ps_OwnM {c T Z : Nat} {L : Nat → Nat → Prop} {own : Nat → Nat} {live live' Rm : Nat → Prop} {nx nx' rs rs' : Nat → Int32} {U : Nat → Nat → Prop} {fi : Int32}
    (O : ps_Own c L own live nx rs) (hu : ∀ x, ps_Un T U x ↔ (x < c ∧ Rm (own x))) (hZ : ¬ live Z)
    (hl : ∀ s, live' s ↔ ((live s ∧ ¬ Rm s) ∨ s = Z))
    (hs : ∀ s, s ≠ Z → rs' s = rs s) (hz : rs' Z = fi) (hf : ps_mi L (ps_Un T U) fi)
    (hd : ∀ x, ps_Un T U x → ps_mi L (fun y => ps_Un T U y ∧ L x y) (nx' x)) (hk : ∀ x, ¬ ps_Un T U x → nx' x = nx x) :
    ∃ own' : Nat → Nat, ps_Own c L own' live' nx' rs' := by
  obtain ⟨a, m, n⟩ := O
  have u1 : ∀ x, ps_Un T U x → x < c := fun x h => ((hu x).1 h).1
  have u2 : ∀ x y, x < c → y < c → own x = own y → ps_Un T U x → ps_Un T U y := by
    intro x y _ hy e h
    exact (hu y).2 ⟨hy, e ▸ ((hu x).1 h).2⟩
  refine ⟨ps_ow T U Z own, ?_, ?_, ?_⟩
  · intro x hx
    by_cases q : ps_Un T U x
    · rw [ps_ow_t q]; exact (hl Z).2 (Or.inr rfl)
    · rw [ps_ow_f q]
      exact (hl _).2 (Or.inl ⟨a x hx, fun z => q ((hu x).2 ⟨hx, z⟩)⟩)
  · intro s hls
    by_cases e : s = Z
    · rw [e, hz]
      refine ps_mi_c ?_ hf
      intro y
      constructor
      · intro hy; exact ⟨u1 y hy, ps_ow_t hy⟩
      · intro hy
        by_cases q : ps_Un T U y
        · exact q
        · exfalso
          have e2 := hy.2
          rw [ps_ow_f q] at e2
          exact hZ (e2 ▸ a y hy.1)
    · rw [hs s e]
      rcases (hl s).1 hls with h | h
      · refine ps_mi_c ?_ (m s h.1)
        intro y
        constructor
        · intro hy
          have q : ¬ ps_Un T U y := fun z => h.2 (hy.2 ▸ ((hu y).1 z).2)
          exact ⟨hy.1, by rw [ps_ow_f q]; exact hy.2⟩
        · intro hy
          by_cases q : ps_Un T U y
          · exfalso
            have e2 := hy.2
            rw [ps_ow_t q] at e2
            exact e e2.symm
          · have e2 := hy.2
            rw [ps_ow_f q] at e2
            exact ⟨hy.1, e2⟩
      · exact absurd h e
  · intro x hx
    by_cases q : ps_Un T U x
    · refine ps_mi_c ?_ (hd x q)
      intro y
      constructor
      · intro hy; exact ⟨u1 y hy.1, by rw [ps_ow_t q, ps_ow_t hy.1], hy.2⟩
      · intro hy
        by_cases qy : ps_Un T U y
        · exact ⟨qy, hy.2.2⟩
        · exfalso
          have e2 := hy.2.1
          rw [ps_ow_t q, ps_ow_f qy] at e2
          exact hZ (e2 ▸ a y hy.1)
    · rw [hk x q]
      refine ps_mi_c ?_ (n x hx)
      intro y
      constructor
      · intro hy
        have qy : ¬ ps_Un T U y := fun z => q (u2 y x hy.1 hx hy.2.1 z)
        exact ⟨hy.1, by rw [ps_ow_f q, ps_ow_f qy]; exact hy.2.1, hy.2.2⟩
      · intro hy
        by_cases qy : ps_Un T U y
        · exfalso
          have e2 := hy.2.1
          rw [ps_ow_f q, ps_ow_t qy] at e2
          exact hZ (e2 ▸ a x hx)
        · have e2 := hy.2.1
          rw [ps_ow_f q, ps_ow_f qy] at e2
          exact ⟨hy.1, e2, hy.2.2⟩
/-! the live slots after a merge -/
def ps_f1 (T f : Nat) (fsN : Nat → Nat) (t : Nat) : Nat := if t < T ∧ t ≠ f then (fsN t + 1) % 32 else fsN t
def ps_r1 (T f : Nat) (rcN : Nat → Nat) (t : Nat) : Nat := if t = f then rcN t + 1 else if t < T then rcN t - 1 else rcN t
theorem ps_liveM {T f s : Nat} {fsN rcN : Nat → Nat} (hT : T ≤ 4) (hf : f < T) (h32 : ∀ t, t < 4 → fsN t < 32) (h1 : ∀ t, t < T → t ≠ f → 1 ≤ rcN t ∧ rcN t ≤ 32) (hr : rcN f < 32) :
    ps_live (ps_f1 T f fsN) (ps_r1 T f rcN) s ↔ ((ps_live fsN rcN s ∧ ¬ (∃ t, t < T ∧ t ≠ f ∧ s = t * 32 + fsN t)) ∨ s = f * 32 + (fsN f + rcN f) % 32) := by
  unfold ps_live
  by_cases b : s < 128
  · have a32 := h32 (s / 32) (by omega)
    by_cases e : s / 32 = f
    · have e1 : ps_f1 T f fsN (s / 32) = fsN f := by unfold ps_f1; rw [if_neg (by omega), e]
      have e2 : ps_r1 T f rcN (s / 32) = rcN f + 1 := by unfold ps_r1; rw [if_pos e, e]
      rw [e1, e2, e]
      rw [e] at a32
      constructor
      · intro h
        by_cases q : (s % 32 + 32 - fsN f) % 32 < rcN f
        · left
          refine ⟨⟨b, q⟩, fun ⟨t, ht, tf, es⟩ => ?_⟩
          have := h32 t (by omega)
          omega
        · right; omega
      · intro h
        rcases h with h | h
        · exact ⟨b, by omega⟩
        · exact ⟨b, by omega⟩
    · by_cases g : s / 32 < T
      · have k1 := h1 _ g e
        have e1 : ps_f1 T f fsN (s / 32) = (fsN (s / 32) + 1) % 32 := by unfold ps_f1; rw [if_pos ⟨g, e⟩]
        have e2 : ps_r1 T f rcN (s / 32) = rcN (s / 32) - 1 := by unfold ps_r1; rw [if_neg e, if_pos g]
        rw [e1, e2]
        constructor
        · intro h
          left
          refine ⟨⟨b, by omega⟩, fun ⟨t, ht, tf, es⟩ => ?_⟩
          have ft := h32 t (by omega)
          have et : s / 32 = t := by omega
          rw [← et] at es
          omega
        · intro h
          rcases h with h | h
          · have ne : s % 32 ≠ fsN (s / 32) := by
              intro z
              exact h.2 ⟨s / 32, g, e, by omega⟩
            exact ⟨b, by omega⟩
          · exfalso; apply e; omega
      · have e1 : ps_f1 T f fsN (s / 32) = fsN (s / 32) := by unfold ps_f1; rw [if_neg (by omega)]
        have e2 : ps_r1 T f rcN (s / 32) = rcN (s / 32) := by unfold ps_r1; rw [if_neg e, if_neg g]
        rw [e1, e2]
        constructor
        · intro h
          left
          refine ⟨h, fun ⟨t, ht, tf, es⟩ => ?_⟩
          have := h32 t (by omega)
          omega
        · intro h
          rcases h with h | h
          · exact h.1
          · exfalso; apply e; omega
  · constructor
    · intro h; exact absurd h.1 b
    · intro h
      rcases h with h | h
      · exact absurd h.1.1 b
      · exfalso; omega
theorem ps_liveZ {f : Nat} {fsN rcN : Nat → Nat} (h32 : fsN f < 32) (hr : rcN f < 32) : ¬ ps_live fsN rcN (f * 32 + (fsN f + rcN f) % 32) := by
  intro h
  have h2 := h.2
  have e : (f * 32 + (fsN f + rcN f) % 32) / 32 = f := by omega
  rw [e] at h2
  omega
end
section
/-! perfect distributions and the counts of the runs on the tapes. -/
def ps_pa (T : Nat) : Nat → Nat → Nat
  | 0, j => if j = 0 then 1 else 0
  | n + 1, j => if j + 1 < T then ps_pa T n 0 + ps_pa T n (j + 1) else 0
def ps_tt (T n : Nat) : Nat := ps_pa T n 0 + ps_pa T n 1 + ps_pa T n 2
def ps_T34 (T : Nat) : Prop := T = 3 ∨ T = 4
theorem ps_pa_s (T n j : Nat) : ps_pa T (n + 1) j = if j + 1 < T then ps_pa T n 0 + ps_pa T n (j + 1) else 0 := rfl
theorem ps_pa_0 {T n j : Nat} (hT : ps_T34 T) (h : T ≤ j + 1) : ps_pa T n j = 0 := by
  cases n with
  | zero => exact if_neg (by rcases hT with e | e <;> omega)
  | succ n => exact if_neg (by omega)
theorem ps_tab3 : ∀ n, n < 8 → ps_pa 3 n 0 ≤ 24 ∧ ps_pa 3 n 1 ≤ 24 ∧ (n = 0 ∨ 1 ≤ ps_pa 3 n 1) ∧ ps_pa 3 n 1 ≤ ps_pa 3 n 0 := by decide
theorem ps_tab4 : ∀ n, n < 7 → ps_pa 4 n 0 ≤ 24 ∧ ps_pa 4 n 1 ≤ 24 ∧ ps_pa 4 n 2 ≤ 24 ∧ (n = 0 ∨ 1 ≤ ps_pa 4 n 2) ∧ ps_pa 4 n 2 ≤ ps_pa 4 n 1 ∧ ps_pa 4 n 1 ≤ ps_pa 4 n 0 := by decide
theorem ps_tt3 : 32 ≤ ps_tt 3 7 := by decide
theorem ps_tt4 : 32 ≤ ps_tt 4 6 := by decide
/-- the level: the least whose total is enough -/
theorem ps_lev {T R : Nat} (hT : ps_T34 T) (hR : R ≤ 32) : ∃ n, n + T ≤ 10 ∧ R ≤ ps_tt T n ∧ ∀ m, m < n → ps_tt T m < R := by
  have ex : ∃ k, k + T ≤ 10 ∧ R ≤ ps_tt T k := by
    rcases hT with e | e
    · subst e; exact ⟨7, by omega, Nat.le_trans hR ps_tt3⟩
    · subst e; exact ⟨6, by omega, Nat.le_trans hR ps_tt4⟩
  obtain ⟨k, hk, hR2⟩ := ex
  have st : ∀ d, d ≤ k → (∃ n, n ≤ d ∧ R ≤ ps_tt T n ∧ ∀ m, m < n → ps_tt T m < R) ∨ (∀ m, m ≤ d → ps_tt T m < R) := by
    intro d
    induction d with
    | zero =>
      intro _
      by_cases q : R ≤ ps_tt T 0
      · exact Or.inl ⟨0, Nat.le_refl 0, q, fun m h => absurd h (Nat.not_lt_zero m)⟩
      · right; intro m hm
        have : m = 0 := by omega
        subst this; omega
    | succ d ih =>
      intro hd
      rcases ih (by omega) with ⟨n, hn, a, b⟩ | h
      · exact Or.inl ⟨n, by omega, a, b⟩
      · by_cases q : R ≤ ps_tt T (d + 1)
        · exact Or.inl ⟨d + 1, Nat.le_refl _, q, fun m hm => h m (by omega)⟩
        · right; intro m hm
          by_cases e : m = d + 1
          · subst e; omega
          · exact h m (by omega)
  rcases st k (Nat.le_refl k) with ⟨n, hn, a, b⟩ | h
  · exact ⟨n, by omega, a, b⟩
  · have := h k (Nat.le_refl k); omega
/-- the counts of the runs at level n, output tape f, after d merges of the phase -/
def ps_Rc (T n f d : Nat) (rc : Nat → Nat) : Prop := ∀ t, t < T → rc t = if t = f then d else ps_pa T n ((t + T - f - 1) % T) - d
/-- a merge that doesn't end the phase, one that does -/
theorem ps_RcM {T n f d : Nat} {rc rc' : Nat → Nat} (hf : f < T) (h : ps_Rc T n f d rc) (h' : ∀ t, t < T → rc' t = if t = f then rc t + 1 else rc t - 1) : ps_Rc T n f (d + 1) rc' := by
  intro t ht
  rw [h' t ht, h t ht]
  by_cases e : t = f
  · rw [if_pos e, if_pos e, if_pos e]
  · rw [if_neg e, if_neg e, if_neg e]; omega
theorem ps_RcP {T n f : Nat} {rc : Nat → Nat} (hT : ps_T34 T) (hn : n + 1 + T ≤ 10) (hf : f < T) (h : ps_Rc T (n + 1) f (ps_pa T (n + 1) (T - 2)) rc) : ps_Rc T n ((f + T - 1) % T) 0 rc := by
  intro t ht
  rw [h t ht]
  rcases hT with e | e
  · subst e
    have p1 : ps_pa 3 (n + 1) 1 = ps_pa 3 n 0 + ps_pa 3 n 2 := rfl
    have p0 : ps_pa 3 (n + 1) 0 = ps_pa 3 n 0 + ps_pa 3 n 1 := rfl
    have z : ps_pa 3 n 2 = 0 := ps_pa_0 (Or.inl rfl) (by omega)
    have c : f = 0 ∨ f = 1 ∨ f = 2 := by omega
    have d : t = 0 ∨ t = 1 ∨ t = 2 := by omega
    rcases c with c | c | c <;> rcases d with d | d | d <;> subst c <;> subst d <;> simp [p0, p1, z] <;> omega
  · subst e
    have p2 : ps_pa 4 (n + 1) 2 = ps_pa 4 n 0 + ps_pa 4 n 3 := rfl
    have p1 : ps_pa 4 (n + 1) 1 = ps_pa 4 n 0 + ps_pa 4 n 2 := rfl
    have p0 : ps_pa 4 (n + 1) 0 = ps_pa 4 n 0 + ps_pa 4 n 1 := rfl
    have z : ps_pa 4 n 3 = 0 := ps_pa_0 (Or.inr rfl) (by omega)
    have c : f = 0 ∨ f = 1 ∨ f = 2 ∨ f = 3 := by omega
    have d : t = 0 ∨ t = 1 ∨ t = 2 ∨ t = 3 := by omega
    rcases c with c | c | c | c <;> rcases d with d | d | d | d <;> subst c <;> subst d <;> simp [p0, p1, p2, z] <;> omega
end
section
/-! the component's walks while it feeds. Wants pk_us pk_un pk_sub pk_m1 pk_mul pk_div pk_rem ahead of it. -/
theorem ps_if {c d A B : Prop} (e : c ↔ d) (f : d → A) (g : ¬ d → B) : (c → A) ∧ (¬ c → B) :=
  ⟨fun h => f (e.1 h), fun h => g (fun z => h (e.2 z))⟩
theorem ps_p1 {r : Nat} (h : 1 ≤ r) : nI r - 1 = nI (r - 1) := pk_sub (b := 1) h
theorem ps_keq (x y : Int32) : x = y ↔ x.toInt = y.toInt := Int32.toInt_inj.symm
theorem ps_kle (x y : Int32) : x ≤ y ↔ x.toInt ≤ y.toInt := Int32.le_iff_toInt_le
theorem ps_klt (x y : Int32) : x < y ↔ x.toInt < y.toInt := Int32.lt_iff_toInt_lt
theorem px_sb {tT wS rL sg rC gR hd lW lv oN ur cR : Int32} {K V N nx ws fo pr rs fs rc mh : Nat → Int32} {post : Int32 → Prop} {a b : Nat} (ha : a < 64) (hb : b < 64) (h1 : ps_L K a b → post 1) (h0 : ¬ ps_L K a b → post 0) : wpX_sortsBefore post (tT, wS, rL, sg, rC, gR, hd, lW, lv, oN, ur, cR, K, V, N, nx, ws, fo, pr, rs, fs, rc, mh) (nI a) (nI b) := by
  have ea : (nI a).toNatClampNeg = a := nI_clamp (by omega)
  have eb : (nI b).toNatClampNeg = b := nI_clamp (by omega)
  have ia : vp_in (nI a) 64 := vp_in_nI ha (by decide)
  have ib : vp_in (nI b) 64 := vp_in_nI hb (by decide)
  refine And.intro ia (And.intro ib (ps_if (d := (K a).toInt = (K b).toInt) (by rw [ea, eb]; exact ps_keq _ _) (fun e => ?_) (fun e => ?_)))
  · refine ps_if (d := b ≤ a) (nI_leI (by omega) (by omega)) (fun q => h0 ?_) (fun q => h1 ?_)
    · unfold ps_L; omega
    · unfold ps_L; omega
  · refine And.intro ia (And.intro ib (ps_if (d := (K b).toInt ≤ (K a).toInt) (by rw [ea, eb]; exact ps_kle _ _) (fun q => h0 ?_) (fun q => h1 ?_)))
    · unfold ps_L; omega
    · unfold ps_L; omega
theorem px_lb {tT wS rL sg rC gR hd lW lv oN ur cR : Int32} {K V N nx ws fo pr rs fs rc mh : Nat → Int32} {post : Int32 → Prop} {a b : Nat} {rn : Nat → Nat} (ha : a < 64) (hb : b < 64) (na : N a = nI (rn a)) (nb : N b = nI (rn b)) (ra : rn a < 1000) (rb : rn b < 1000)
    (h1 : ps_R rn (ps_L K) a b → post 1) (h0 : ¬ ps_R rn (ps_L K) a b → post 0) : wpX_leavesBefore post (tT, wS, rL, sg, rC, gR, hd, lW, lv, oN, ur, cR, K, V, N, nx, ws, fo, pr, rs, fs, rc, mh) (nI a) (nI b) := by
  have ea : (nI a).toNatClampNeg = a := nI_clamp (by omega)
  have eb : (nI b).toNatClampNeg = b := nI_clamp (by omega)
  have ia : vp_in (nI a) 64 := vp_in_nI ha (by decide)
  have ib : vp_in (nI b) 64 := vp_in_nI hb (by decide)
  refine And.intro ia (And.intro ib (ps_if (d := rn a = rn b) (by rw [ea, eb, na, nb]; exact nI_eq (by omega) (by omega)) (fun e => ?_) (fun e => ?_)))
  · refine px_sb ha hb (fun q => ⟨rfl, h1 (Or.inr ⟨e, q⟩)⟩) (fun q => ⟨rfl, h0 (fun z => ?_)⟩)
    rcases z with z | z
    · omega
    · exact q z.2
  · refine And.intro ia (And.intro ib (ps_if (d := rn b ≤ rn a) (by rw [ea, eb, na, nb]; exact nI_leI (by omega) (by omega)) (fun q => h0 (fun z => ?_)) (fun q => h1 (Or.inl (by omega)))))
    rcases z with z | z
    · omega
    · exact e z.1
/-- what frontCell needs of the cells -/
def px_Cl (h : Nat) (w rn : Nat → Nat) (N ws : Nat → Int32) : Prop :=
  h ≤ 8 ∧ (∀ j, j < h → ws j = nI (w j) ∧ w j < 64 ∧ N (w j) = nI (rn (w j)) ∧ rn (w j) < 1000) ∧ (∀ i j, i < h → j < h → w i = w j → i = j)
theorem px_fcl {tT wS rL sg rC gR lW lv oN ur cR : Int32} {K V N nx ws fo pr rs fs rc mh : Nat → Int32} {post : Int32 → Prop} {h : Nat} {w rn : Nat → Nat} (C : px_Cl h w rn N ws)
    (hp : ∀ b, b < h → (∀ j, j < h → j = b ∨ ps_R rn (ps_L K) (w b) (w j)) → post (nI b)) :
    ∀ n i b, i ≤ h → h - i < n → b < h → (∀ j, j < i → j = b ∨ ps_R rn (ps_L K) (w b) (w j)) → wX_frontCell_4 post tT wS rL sg rC gR (nI h) lW lv oN ur cR K V N nx ws fo pr rs fs rc mh n (nI b) (nI i) := by
  obtain ⟨h8, hw, inj⟩ := C
  have hT := ps_R_T (rn := rn) (ps_L_T K)
  intro n
  induction n with
  | zero => intro i b _ h1; omega
  | succ n ih =>
    intro i b hi hn hb hI
    refine ps_if (d := h ≤ i) (nI_leI (by omega) (by omega)) (fun q => hp b hb (fun j hj => hI j (by omega))) (fun q => ?_)
    have il : i < h := by omega
    have wi := hw i il
    have wb := hw b hb
    refine And.intro (vp_in_nI (by omega) (by decide)) (And.intro (vp_in_nI (by omega) (by decide)) ?_)
    have e1 : ws (nI i).toNatClampNeg = nI (w i) := by rw [nI_clamp (by omega)]; exact wi.1
    have e2 : ws (nI b).toNatClampNeg = nI (w b) := by rw [nI_clamp (by omega)]; exact wb.1
    rw [e1, e2]
    refine px_lb (rn := rn) wi.2.1 wb.2.1 wi.2.2.1 wb.2.2.1 wi.2.2.2 wb.2.2.2 (fun z => ?_) (fun z => ?_)
    · refine br_f (by decide) (nm_r (nI_1 i) (ih (i + 1) i (by omega) (by omega) il (fun j hj => ?_)))
      by_cases ji : j = i
      · exact Or.inl ji
      · rcases hI j (by omega) with s | s
        · rw [s]; exact Or.inr z
        · exact Or.inr (hT.2.1 _ _ _ z s)
    · refine br_t rfl (nm_r (nI_1 i) (ih (i + 1) b (by omega) (by omega) hb (fun j hj => ?_)))
      by_cases ji : j = i
      · by_cases bi : b = i
        · exact Or.inl (by omega)
        · right
          rw [ji]
          rcases hT.2.2 (w i) (w b) (fun s => bi (inj i b il hb s).symm) with s | s
          · exact absurd s z
          · exact s
      · exact hI j (by omega)
theorem px_fc {tT wS rL sg rC gR lW lv oN ur cR : Int32} {K V N nx ws fo pr rs fs rc mh : Nat → Int32} {post : Int32 → Prop} {h : Nat} {w rn : Nat → Nat} (C : px_Cl h w rn N ws) (h1 : 1 ≤ h)
    (hp : ∀ b, b < h → (∀ j, j < h → j = b ∨ ps_R rn (ps_L K) (w b) (w j)) → post (nI b)) : wpX_frontCell post (tT, wS, rL, sg, rC, gR, nI h, lW, lv, oN, ur, cR, K, V, N, nx, ws, fo, pr, rs, fs, rc, mh) :=
  Exists.intro (h + 1) (px_fcl C hp (h + 1) 1 0 h1 (by omega) (by omega) (fun j hj => Or.inl (by omega)))
theorem px_w50 {tT wS rL sg rC gR hd lW lv oN ur cR : Int32} {K V N nx ws fo pr rs fs rc mh : Nat → Int32} {post : SX → Prop} {f : Nat} (hf : f < 64) (hp : post (tT, wS, rL, sg, rC, gR, hd, nI f, lv, oN, ur, cR, K, V, N, upd nx f (-1), ws, fo, pr, rs, fs, rc, mh)) : wX_writeOut_50 post (nI f) tT wS rL sg rC gR hd lW lv oN ur cR K V N nx ws fo pr rs fs rc mh :=
  And.intro (vp_in_nI hf (by decide)) (nm_r (e' := upd nx f (-1)) (by rw [nI_clamp (by omega)]) hp)
theorem px_w41 {tT wS rL sg rC gR hd lW lv oN ur cR : Int32} {K V N nx ws fo pr rs fs rc mh : Nat → Int32} {post : SX → Prop} {f r : Nat} (hf : f < 64) (h1 : 1 ≤ r) (hr : r ≤ 64) (hp : post (tT, wS, rL, sg, rC, gR, hd, nI f, lv, oN, ur, cR, K, V, N, upd nx f (-1), ws, upd fo (r - 1) (nI f), pr, rs, fs, rc, mh)) : wX_writeOut_41 post (nI f) (nI r) tT wS rL sg rC gR hd lW lv oN ur cR K V N nx ws fo pr rs fs rc mh := by
  have e1 := ps_p1 h1
  refine And.intro (by rw [e1]; exact vp_in_nI (by omega) (by decide)) (nm_r (e' := upd fo (r - 1) (nI f)) (by rw [e1, nI_clamp (by omega)]) ?_)
  exact px_w50 hf hp
theorem px_wo {tT wS rL sg rC gR hd lW lv oN ur cR : Int32} {K V N nx ws fo pr rs fs rc mh : Nat → Int32} {post : SX → Prop} {c f : Nat} {rn : Nat → Nat} {wr : Nat → Prop} (hc : c ≤ 64) (F : ps_Feed c (ps_L K) rn wr nx fo lW)
    (hN : ∀ x, x < c → N x = nI (rn x) ∧ 1 ≤ rn x ∧ rn x ≤ 64) (hf : f < c) (hw : ¬ wr f) (hm : ∀ y, y < c → ¬ wr y → y = f ∨ ps_R rn (ps_L K) f y)
    (hp : ∀ nx' fo' : Nat → Int32, ps_Feed c (ps_L K) rn (fun x => wr x ∨ x = f) nx' fo' (nI f) → post (tT, wS, rL, sg, rC, gR, hd, nI f, lv, oN, ur, cR, K, V, N, nx', ws, fo', pr, rs, fs, rc, mh)) : wpX_writeOut post (tT, wS, rL, sg, rC, gR, hd, lW, lv, oN, ur, cR, K, V, N, nx, ws, fo, pr, rs, fs, rc, mh) (nI f) := by
  have cf : (nI f).toNatClampNeg = f := nI_clamp (by omega)
  have nf := hN f hf
  have hT := ps_L_T K
  refine And.intro (vp_in_nI (by omega) (by decide)) (nm_r (e' := nI (rn f)) (by rw [cf]; exact nf.1) ?_)
  by_cases e : lW = -1
  · exact br_t e (px_w41 (by omega) nf.2.1 nf.2.2 (hp _ _ (ps_wo0 hT F e (by omega) hf hm).2))
  · refine br_f e ?_
    have F2 := F.2
    rcases F2 with ⟨e', _⟩ | ⟨l, el, hl, _⟩
    · exact absurd e' e
    · have lc := F.1 l hl
      subst el
      have cl : (nI l).toNatClampNeg = l := nI_clamp (by omega)
      have nl := hN l lc
      have il : vp_in (nI l) 64 := vp_in_nI (by omega) (by decide)
      refine And.intro il (ps_if (d := rn l = rn f) (by rw [cl, nl.1]; exact nI_eq (by omega) (by omega)) (fun r => ?_) (fun r => ?_))
      · refine And.intro il (nm_r (e' := upd nx l (nI f)) (by rw [cl]) ?_)
        exact px_w50 (by omega) (hp _ _ (ps_woB hT F (by omega) (by omega) hf hw hm r))
      · exact px_w41 (by omega) nf.2.1 nf.2.2 (hp _ _ (ps_woA hT F (by omega) (by omega) hf hw hm r).2)
end
section
/-! put. -/
theorem ps_LK {K : Nat → Int32} {c : Nat} {k : Int32} : ∀ x y, x < c → y < c → (ps_L (upd K c k) x y ↔ ps_L K x y) := by
  intro x y hx hy
  unfold ps_L
  rw [pk_un (by omega), pk_un (by omega)]
theorem px_97 {tT wS rL sg rC hd lW lv oN ur cR : Int32} {K V N nx ws fo pr rs fs rc mh : Nat → Int32} {post : Int32 → SX → Prop} {c r R : Nat} (hc : c < 64) (eN : N c = nI r) (hr : r < 1000) (hR : R < 1000)
    (h0 : r ≤ R → post 0 (tT, wS, rL, sg, rC, nI R, hd, lW, lv, oN, ur, cR, K, V, N, nx, ws, fo, pr, rs, fs, rc, mh)) (h1 : R < r → post 0 (tT, wS, rL, sg, rC, nI r, hd, lW, lv, oN, ur, cR, K, V, N, nx, ws, fo, pr, rs, fs, rc, mh)) : wX_put_97 post (nI c) tT wS rL sg rC (nI R) hd lW lv oN ur cR K V N nx ws fo pr rs fs rc mh := by
  have ec : N (nI c).toNatClampNeg = nI r := by rw [nI_clamp (by omega)]; exact eN
  refine And.intro (vp_in_nI hc (by decide)) (ps_if (d := r ≤ R) (by rw [ec]; exact nI_leI (by omega) (by omega)) h0 (fun q => ?_))
  exact And.intro (vp_in_nI hc (by decide)) (nm_r ec (h1 (by omega)))
theorem px_putF {tT lW lv oN ur cR : Int32} {K V N nx ws fo pr rs fs rc mh : Nat → Int32} {post : Int32 → SX → Prop} {A W c R h : Nat} {k v : Int32} (hA : A ≤ 64) (hW : W ≤ 8) (hc : c < A) (hh : h < W) (hR : R < 1000)
    (h0 : 1 ≤ R → post 0 (tT, nI W, nI A, 0, nI (c + 1), nI R, nI (h + 1), lW, lv, oN, ur, cR, upd K c k, upd V c v, upd N c 1, nx, upd ws h (nI c), fo, pr, rs, fs, rc, mh))
    (h1 : R < 1 → post 0 (tT, nI W, nI A, 0, nI (c + 1), nI 1, nI (h + 1), lW, lv, oN, ur, cR, upd K c k, upd V c v, upd N c 1, nx, upd ws h (nI c), fo, pr, rs, fs, rc, mh)) :
    wpX_put post (tT, nI W, nI A, 0, nI c, nI R, nI h, lW, lv, oN, ur, cR, K, V, N, nx, ws, fo, pr, rs, fs, rc, mh) k v := by
  have ec : (nI c).toNatClampNeg = c := nI_clamp (by omega)
  have ic : vp_in (nI c) 64 := vp_in_nI (by omega) (by decide)
  refine br_t rfl (ps_if (d := c < A) (nI_ltI (by omega) (by omega)) (fun _ => ?_) (fun q => absurd hc q))
  refine And.intro ic (nm_r (e' := upd K c k) (by rw [ec]) (And.intro ic (nm_r (e' := upd V c v) (by rw [ec]) (nm_r (nI_1 c) ?_))))
  refine ps_if (d := W ≤ h) (nI_leI (by omega) (by omega)) (fun q => absurd q (by omega)) (fun _ => ?_)
  refine And.intro ic (nm_r (e' := upd N c 1) (by rw [ec]) (And.intro (vp_in_nI (by omega) (by decide)) (nm_r (e' := upd ws h (nI c)) (by rw [nI_clamp (by omega)]) (nm_r (nI_1 h) ?_))))
  exact px_97 (r := 1) (by omega) pk_us (by omega) hR h0 h1
theorem px_61 {tT wS rL sg rC gR hd lW lv oN ur cR : Int32} {K V N nx ws fo pr rs fs rc mh : Nat → Int32} {post : SX → Prop} {c b f r : Nat} {rn : Nat → Nat} {wr : Nat → Prop} (hc : c < 64) (hb : b < 8) (F : ps_Feed c (ps_L K) rn wr nx fo lW)
    (hN : ∀ x, x < c → N x = nI (rn x) ∧ 1 ≤ rn x ∧ rn x ≤ 64) (hf : f < c) (hw : ¬ wr f) (hm : ∀ y, y < c → ¬ wr y → y = f ∨ ps_R rn (ps_L K) f y)
    (hp : ∀ nx' fo' : Nat → Int32, ps_Feed c (ps_L K) (ps_un rn c r) (fun x => wr x ∨ x = f) nx' fo' (nI f) → post (tT, wS, rL, sg, rC, gR, hd, nI f, lv, oN, ur, cR, K, V, upd N c (nI r), nx', upd ws b (nI c), fo', pr, rs, fs, rc, mh)) :
    wX_replaceFront_61 post (nI c) (nI b) (nI f) (nI r) (nI c) tT wS rL sg rC gR hd lW lv oN ur cR K V N nx ws fo pr rs fs rc mh := by
  refine And.intro (vp_in_nI hc (by decide)) (nm_r (e' := upd N c (nI r)) (by rw [nI_clamp (by omega)]) ?_)
  have er : ∀ x, x < c → ps_un rn c r x = rn x := fun x hx => ps_uo (by omega)
  have F' := ps_FeedC (L' := ps_L K) (rn' := ps_un rn c r) (fun _ _ _ _ => Iff.rfl) er F
  refine px_wo (rn := ps_un rn c r) (wr := wr) (by omega) F' (fun x hx => ?_) hf hw (fun y hy hw' => ?_) (fun nx' fo' F'' => ?_)
  · rw [er x hx, pk_un (by omega)]; exact hN x hx
  · rcases hm y hy hw' with q | q
    · exact Or.inl q
    · right
      rcases q with q | q
      · left; rw [er f hf, er y hy]; exact q
      · right; rw [er f hf, er y hy]; exact q
  · exact And.intro (vp_in_nI hb (by decide)) (nm_r (e' := upd ws b (nI c)) (by rw [nI_clamp (by omega)]) (hp nx' fo' F''))
theorem px_rf {tT wS rL sg rC gR lW lv oN ur cR : Int32} {K V N nx ws fo pr rs fs rc mh : Nat → Int32} {post : SX → Prop} {c h : Nat} {w rn : Nat → Nat} {wr : Nat → Prop} (hc : c < 64) (F : ps_Feed c (ps_L K) rn wr nx fo lW)
    (hN : ∀ x, x < c → N x = nI (rn x) ∧ 1 ≤ rn x ∧ rn x ≤ 64) (h1 : 1 ≤ h) (h8 : h ≤ 8) (Wk : ps_Ws c h w wr) (hw : ∀ j, j < h → ws j = nI (w j))
    (hp : ∀ b r, b < h → (∀ y, y < c → ¬ wr y → y = w b ∨ ps_R rn (ps_L K) (w b) y) → ((K c).toInt < (K (w b)).toInt → r = rn (w b) + 1) → (¬ (K c).toInt < (K (w b)).toInt → r = rn (w b)) →
      ∀ nx' fo' : Nat → Int32, ps_Feed c (ps_L K) (ps_un rn c r) (fun x => wr x ∨ x = w b) nx' fo' (nI (w b)) → post (tT, wS, rL, sg, rC, gR, nI h, nI (w b), lv, oN, ur, cR, K, V, upd N c (nI r), nx', upd ws b (nI c), fo', pr, rs, fs, rc, mh)) :
    wpX_replaceFront post (tT, wS, rL, sg, rC, gR, nI h, lW, lv, oN, ur, cR, K, V, N, nx, ws, fo, pr, rs, fs, rc, mh) (nI c) := by
  have C : px_Cl h w rn N ws := by
    refine ⟨h8, fun j hj => ?_, Wk.2.1⟩
    have a := Wk.1 j hj
    have n := hN _ a.1
    exact ⟨hw j hj, by omega, n.1, by omega⟩
  unfold wpX_replaceFront
  refine px_fc C h1 (fun b hb hmin => ?_)
  have wb := Wk.1 b hb
  have nb := hN _ wb.1
  have ec : (nI c).toNatClampNeg = c := nI_clamp (by omega)
  have ef : (nI (w b)).toNatClampNeg = w b := nI_clamp (by omega)
  have iff : vp_in (nI (w b)) 64 := vp_in_nI (by omega) (by decide)
  have hm : ∀ y, y < c → ¬ wr y → y = w b ∨ ps_R rn (ps_L K) (w b) y := by
    intro y hy hwy
    obtain ⟨j, hj, ej⟩ := Wk.2.2 y hy hwy
    rcases hmin j hj with q | q
    · left; rw [← ej, q]
    · right; rw [← ej]; exact q
  refine And.intro (vp_in_nI (by omega) (by decide)) (nm_r (e' := nI (w b)) (by rw [nI_clamp (by omega)]; exact hw b hb) (And.intro (vp_in_nI hc (by decide)) (And.intro iff (ps_if (d := (K c).toInt < (K (w b)).toInt) (by rw [ec, ef]; exact ps_klt _ _) (fun q => ?_) (fun q => ?_)))))
  · refine br_t rfl (And.intro iff ?_)
    have er : N (nI (w b)).toNatClampNeg + 1 = nI (rn (w b) + 1) := by rw [ef, nb.1, nI_1]
    rw [er]
    exact px_61 hc (by omega) F hN wb.1 wb.2 hm (hp b (rn (w b) + 1) hb hm (fun _ => rfl) (fun z => absurd q z))
  · refine br_f (by decide) (And.intro iff ?_)
    have er : N (nI (w b)).toNatClampNeg = nI (rn (w b)) := by rw [ef, nb.1]
    rw [er]
    exact px_61 hc (by omega) F hN wb.1 wb.2 hm (hp b (rn (w b)) hb hm (fun z => absurd z q) (fun _ => rfl))
theorem px_putW {tT lW lv oN ur cR : Int32} {K V N nx ws fo pr rs fs rc mh : Nat → Int32} {post : Int32 → SX → Prop} {A W c R h : Nat} {k v : Int32} {w rn : Nat → Nat} {wr : Nat → Prop} (hA : A ≤ 64) (hc : c < A) (hh : W ≤ h) (h1 : 1 ≤ h) (h8 : h ≤ 8) (hR : R ≤ 64)
    (F : ps_Feed c (ps_L K) rn wr nx fo lW) (hN : ∀ x, x < c → N x = nI (rn x) ∧ 1 ≤ rn x ∧ rn x ≤ 64) (Wk : ps_Ws c h w wr) (hw : ∀ j, j < h → ws j = nI (w j))
    (hp : ∀ b r R', b < h → (∀ y, y < c → ¬ wr y → y = w b ∨ ps_R rn (ps_L K) (w b) y) → (k.toInt < (K (w b)).toInt → r = rn (w b) + 1) → (¬ k.toInt < (K (w b)).toInt → r = rn (w b)) → (r ≤ R → R' = R) → (R < r → R' = r) →
      ∀ nx' fo' : Nat → Int32, ps_Feed c (ps_L (upd K c k)) (ps_un rn c r) (fun x => wr x ∨ x = w b) nx' fo' (nI (w b)) →
      post 0 (tT, nI W, nI A, 0, nI (c + 1), nI R', nI h, nI (w b), lv, oN, ur, cR, upd K c k, upd V c v, upd N c (nI r), nx', upd ws b (nI c), fo', pr, rs, fs, rc, mh)) :
    wpX_put post (tT, nI W, nI A, 0, nI c, nI R, nI h, lW, lv, oN, ur, cR, K, V, N, nx, ws, fo, pr, rs, fs, rc, mh) k v := by
  have ec : (nI c).toNatClampNeg = c := nI_clamp (by omega)
  have ic : vp_in (nI c) 64 := vp_in_nI (by omega) (by decide)
  have F' := ps_FeedC (L' := ps_L (upd K c k)) (rn' := rn) ps_LK (fun _ _ => rfl) F
  refine br_t rfl (ps_if (d := c < A) (nI_ltI (by omega) (by omega)) (fun _ => ?_) (fun q => absurd hc q))
  refine And.intro ic (nm_r (e' := upd K c k) (by rw [ec]) (And.intro ic (nm_r (e' := upd V c v) (by rw [ec]) (nm_r (nI_1 c) ?_))))
  refine ps_if (d := W ≤ h) (nI_leI (by omega) (by omega)) (fun _ => ?_) (fun q => absurd hh q)
  refine px_rf (w := w) (rn := rn) (wr := wr) (by omega) F' hN h1 h8 Wk hw (fun b r hb hm r1 r2 nx' fo' F'' => ?_)
  have wb := Wk.1 b hb
  have nb := hN _ wb.1
  rw [pk_us, pk_un (by omega)] at r1 r2
  have hm' : ∀ y, y < c → ¬ wr y → y = w b ∨ ps_R rn (ps_L K) (w b) y := by
    intro y hy hwy
    rcases hm y hy hwy with q | q
    · exact Or.inl q
    · right
      rcases q with q | q
      · exact Or.inl q
      · exact Or.inr ⟨q.1, (ps_LK _ _ wb.1 hy).1 q.2⟩
  have hr : r < 1000 := by
    by_cases z : k.toInt < (K (w b)).toInt
    · have := r1 z; omega
    · have := r2 z; omega
  refine px_97 (r := r) (by omega) pk_us hr (by omega) (fun q => ?_) (fun q => ?_)
  · exact hp b r R hb hm' r1 r2 (fun _ => rfl) (fun z => by omega) nx' fo' F''
  · exact hp b r r hb hm' r1 r2 (fun z => by omega) (fun _ => rfl) nx' fo' F''
/-! the reference's side -/
def ps_cn (a : Nat → Int32) : Nat → Nat
  | 0 => 0
  | n + 1 => ps_cn a n + if a n = 0 then 0 else 1
theorem ps_cn_s (a : Nat → Int32) (n : Nat) : ps_cn a (n + 1) = ps_cn a n + if a n = 0 then 0 else 1 := rfl
theorem ps_cn_c {a b : Nat → Int32} : ∀ n, (∀ x, x < n → a x = b x) → ps_cn a n = ps_cn b n := by
  intro n
  induction n with
  | zero => intro _; rfl
  | succ n ih =>
    intro h
    rw [ps_cn_s, ps_cn_s, ih (fun x hx => h x (by omega)), h n (by omega)]
theorem ps_cn_u {a : Nat → Int32} {s : Nat} (hs : ¬ a s = 0) : ∀ n, s < n → ps_cn (upd a s 0) n + 1 = ps_cn a n := by
  intro n
  induction n with
  | zero => intro h; omega
  | succ n ih =>
    intro h
    rw [ps_cn_s, ps_cn_s]
    by_cases e : s = n
    · subst e
      rw [pk_us, if_pos rfl, if_neg hs, ps_cn_c (a := upd a s 0) (b := a) s (fun x hx => pk_un (by omega))]
    · rw [pk_un (by omega)]
      have := ih (by omega)
      omega
theorem ps_cn_le (a : Nat → Int32) : ∀ n, ps_cn a n ≤ n := by
  intro n
  induction n with
  | zero => exact Nat.le_refl 0
  | succ n ih =>
    rw [ps_cn_s]
    split <;> omega
theorem ps_vb0 : vp_nar .boolean 0 = 0 := by decide
theorem ps_vb1 : vp_nar .boolean 1 = 1 := by decide
theorem ps_n1 : (-1 : Int32) < 0 := by decide
/-- one more in the set of those below i -/
theorem ps_mi_s {L : Nat → Nat → Prop} {P : Nat → Prop} {x : Int32} {i : Nat} (h : ps_mi L (fun y => y < i ∧ P y) x) (n : ¬ P i) : ps_mi L (fun y => y < i + 1 ∧ P y) x := by
  refine ps_mi_c ?_ h
  intro y
  constructor
  · intro a; exact ⟨by have := a.1; omega, a.2⟩
  · intro a
    refine ⟨?_, a.2⟩
    by_cases e : y = i
    · rw [e] at a; exact absurd a.2 n
    · have := a.1; omega
theorem ps_mi_k {L : Nat → Nat → Prop} {P : Nat → Prop} {b i : Nat} (p : P b) (hb : b < i) (m : ∀ y, y < i ∧ P y → y = b ∨ L b y) (h : L b i) : ps_mi L (fun y => y < i + 1 ∧ P y) (nI b) := by
  refine ps_mi_1 b ⟨by omega, p⟩ ?_
  intro y hy
  by_cases e : y = i
  · rw [e]; exact Or.inr h
  · exact m y ⟨by have := hy.1; omega, hy.2⟩
theorem ps_mi_n {L : Nat → Nat → Prop} {P : Nat → Prop} {i : Nat} (p : P i) (m : ∀ y, y < i → P y → L i y) : ps_mi L (fun y => y < i + 1 ∧ P y) (nI i) := by
  refine ps_mi_1 i ⟨by omega, p⟩ ?_
  intro y hy
  by_cases e : y = i
  · exact Or.inl e
  · exact Or.inr (m y (by have := hy.1; omega) hy.2)
theorem py_frl {yT yW yA yg yl yo yL : Int32} {K V N ins row hl : Nat → Int32} {post : Int32 → Prop} {c : Nat} {rn : Nat → Nat} (hc : c ≤ 64) (hN : ∀ x, x < c → N x = nI (rn x) ∧ rn x < 1000)
    (hp : ∀ s, ps_mi (ps_R rn (ps_L K)) (fun y => y < c ∧ ¬ ins y = 0) s → post s) :
    ∀ n i x, i ≤ c → c - i < n → ps_mi (ps_R rn (ps_L K)) (fun y => y < i ∧ ¬ ins y = 0) x → wY_front_4 post yT yW yA yg (nI c) yl yo yL K V N ins row hl n x (nI i) := by
  have hT := ps_R_T (rn := rn) (ps_L_T K)
  intro n
  induction n with
  | zero => intro i x _ h1; omega
  | succ n ih =>
    intro i x hi hn hI
    refine ps_if (d := c ≤ i) (nI_leI (by omega) (by omega)) (fun q => hp x ?_) (fun q => ?_)
    · have e : i = c := by omega
      rw [e] at hI; exact hI
    have ic : i < c := by omega
    have ei : (nI i).toNatClampNeg = i := nI_clamp (by omega)
    have ii : vp_in (nI i) 64 := vp_in_nI (by omega) (by decide)
    refine And.intro ii (ps_if (d := ins i = 0) (by rw [ei]) (fun z => ?_) (fun z => ?_))
    · exact nm_r (nI_1 i) (ih (i + 1) x (by omega) (by omega) (ps_mi_s hI (fun a => a z)))
    · rcases hI with ⟨ex, no⟩ | ⟨b, eb, pb, mb⟩
      · subst ex
        refine br_t ps_n1 (nm_r (nI_1 i) (ih (i + 1) (nI i) (by omega) (by omega) (ps_mi_n z (fun y hy py => absurd ⟨hy, py⟩ (no y)))))
      · subst eb
        have bc : b < c := by have := pb.1; omega
        have e2 : (nI b).toNatClampNeg = b := nI_clamp (by omega)
        have ib : vp_in (nI b) 64 := vp_in_nI (by omega) (by decide)
        have ni := hN i ic
        have nb := hN b bc
        have hit : ps_R rn (ps_L K) i b → ps_mi (ps_R rn (ps_L K)) (fun y => y < i + 1 ∧ ¬ ins y = 0) (nI i) := by
          intro a
          refine ps_mi_n z (fun y hy py => ?_)
          rcases mb y ⟨hy, py⟩ with s | s
          · rw [s]; exact a
          · exact hT.2.1 _ _ _ a s
        have hkp : ps_R rn (ps_L K) b i → ps_mi (ps_R rn (ps_L K)) (fun y => y < i + 1 ∧ ¬ ins y = 0) (nI b) :=
          fun a => ps_mi_k pb.2 pb.1 mb a
        have bi := pb.1
        refine br_f (nI_pos (by omega)) (And.intro ii (And.intro ib (ps_if (d := rn i < rn b) (by rw [ei, e2, ni.1, nb.1]; exact nI_ltI (by omega) (by omega)) (fun r => ?_) (fun r => ?_))))
        · exact nm_r (nI_1 i) (ih (i + 1) (nI i) (by omega) (by omega) (hit (Or.inl r)))
        · refine And.intro ii (And.intro ib (ps_if (d := rn i = rn b) (by rw [ei, e2, ni.1, nb.1]; exact nI_eq (by omega) (by omega)) (fun e => ?_) (fun e => ?_)))
          · refine And.intro ii (And.intro ib (ps_if (d := (K b).toInt ≤ (K i).toInt) (by rw [ei, e2]; exact ps_kle _ _) (fun s => ?_) (fun s => ?_)))
            · exact nm_r (nI_1 i) (ih (i + 1) (nI b) (by omega) (by omega) (hkp (Or.inr ⟨e.symm, by unfold ps_L; omega⟩)))
            · exact nm_r (nI_1 i) (ih (i + 1) (nI i) (by omega) (by omega) (hit (Or.inr ⟨e, by unfold ps_L; omega⟩)))
          · exact nm_r (nI_1 i) (ih (i + 1) (nI b) (by omega) (by omega) (hkp (Or.inl (by omega))))
theorem py_fr {yT yW yA yg yl yo yL : Int32} {K V N ins row hl : Nat → Int32} {post : Int32 → Prop} {c : Nat} {rn : Nat → Nat} (hc : c ≤ 64) (hN : ∀ x, x < c → N x = nI (rn x) ∧ rn x < 1000)
    (hp : ∀ s, ps_mi (ps_R rn (ps_L K)) (fun y => y < c ∧ ¬ ins y = 0) s → post s) : wpY_front post (yT, yW, yA, yg, nI c, yl, yo, yL, K, V, N, ins, row, hl) :=
  Exists.intro (c + 1) (py_frl hc hN hp (c + 1) 0 (-1) (by omega) (by omega) (ps_mi_0 (fun y a => absurd a.1 (Nat.not_lt_zero y))))
theorem py_117 {yT yW yA yg yl yo yL : Int32} {K V N ins row hl : Nat → Int32} {post : Int32 → SY → Prop} {c : Nat} {k v r : Int32} (hc : c < 64)
    (hp : post 0 (yT, yW, yA, yg, nI (c + 1), yl, yo, yL, upd K c k, upd V c v, upd N c r, upd ins c 1, row, hl)) : wY_put_117 post k v r yT yW yA yg (nI c) yl yo yL K V N ins row hl := by
  have ec : (nI c).toNatClampNeg = c := nI_clamp (by omega)
  have ic : vp_in (nI c) 64 := vp_in_nI (by omega) (by decide)
  refine And.intro ic (nm_r (e' := upd K c k) (by rw [ec]) (And.intro ic (nm_r (e' := upd V c v) (by rw [ec]) (And.intro ic (nm_r (e' := upd N c r) (by rw [ec]) (And.intro ic (nm_r (e' := upd ins c 1) (by rw [ec, ps_vb1]) (nm_r (nI_1 c) hp))))))))
theorem py_cnt {yT yW yA yg yl yo yL : Int32} {K V N ins row hl : Nat → Int32} {post : Int32 → SY → Prop} {c : Nat} {k v : Int32} (hc : c ≤ 64) (he : ∀ n, wY_put_27 post k v yT yW yA yg (nI c) yl yo yL K V N ins row hl (n + 1) (nI (ps_cn ins c)) (nI c)) :
    ∀ n i, i ≤ c → c - i < n → wY_put_27 post k v yT yW yA yg (nI c) yl yo yL K V N ins row hl n (nI (ps_cn ins i)) (nI i) := by
  intro n
  induction n with
  | zero => intro i _ h; omega
  | succ n ih =>
    intro i hi hn
    by_cases e : i = c
    · rw [e]; exact he n
    · have ei : (nI i).toNatClampNeg = i := nI_clamp (by omega)
      have s := ih (i + 1) (by omega) (by omega)
      rw [ps_cn_s] at s
      refine ps_if (d := c ≤ i) (nI_leI (by omega) (by omega)) (fun q => absurd q (by omega)) (fun _ => ?_)
      refine And.intro (vp_in_nI (by omega) (by decide)) (ps_if (d := ins i = 0) (by rw [ei]) (fun z => ?_) (fun z => ?_))
      · rw [if_pos z] at s
        exact nm_r (nI_1 i) s
      · rw [if_neg z] at s
        exact nm_r (nI_1 _) (nm_r (nI_1 i) s)
theorem py_putF {yT yl yo yL : Int32} {K V N ins row hl : Nat → Int32} {post : Int32 → SY → Prop} {A W c : Nat} {k v : Int32} {rn : Nat → Nat} (hA : A ≤ 64) (hW : W ≤ 8) (hc : c < A) (hh : ps_cn ins c < W) (hN : ∀ x, x < c → N x = nI (rn x) ∧ rn x < 1000)
    (hp : post 0 (yT, nI W, nI A, 0, nI (c + 1), yl, yo, yL, upd K c k, upd V c v, upd N c 1, upd ins c 1, row, hl)) :
    wpY_put post (yT, nI W, nI A, 0, nI c, yl, yo, yL, K, V, N, ins, row, hl) k v := by
  refine br_t rfl (ps_if (d := c = A) (nI_eq (by omega) (by omega)) (fun q => absurd q (by omega)) (fun _ => ?_))
  refine Exists.intro (c + 1) (py_cnt (by omega) (fun n => ?_) (c + 1) 0 (by omega) (by omega))
  refine br_t (nI_le (Nat.le_refl c) (by omega)) ?_
  refine py_fr (rn := rn) (by omega) hN (fun s _ => ?_)
  exact br_t (nI_lt hh (by omega)) (py_117 (by omega) hp)
theorem py_putW {yT yl yo yL : Int32} {K V N ins row hl : Nat → Int32} {post : Int32 → SY → Prop} {A W c f r : Nat} {k v : Int32} {rn : Nat → Nat} (hA : A ≤ 64) (hc : c < A) (hh : W ≤ ps_cn ins c) (hN : ∀ x, x < c → N x = nI (rn x) ∧ rn x < 1000)
    (hf : f < c) (hi : ¬ ins f = 0) (hm : ∀ y, y < c → ¬ ins y = 0 → y = f ∨ ps_R rn (ps_L K) f y) (r1 : k.toInt < (K f).toInt → r = rn f + 1) (r2 : ¬ k.toInt < (K f).toInt → r = rn f)
    (hp : post 0 (yT, nI W, nI A, 0, nI (c + 1), yl, yo, yL, upd K c k, upd V c v, upd N c (nI r), upd (upd ins f 0) c 1, row, hl)) :
    wpY_put post (yT, nI W, nI A, 0, nI c, yl, yo, yL, K, V, N, ins, row, hl) k v := by
  have hcn := ps_cn_le ins c
  refine br_t rfl (ps_if (d := c = A) (nI_eq (by omega) (by omega)) (fun q => absurd q (by omega)) (fun _ => ?_))
  refine Exists.intro (c + 1) (py_cnt (by omega) (fun n => ?_) (c + 1) 0 (by omega) (by omega))
  refine br_t (nI_le (Nat.le_refl c) (by omega)) ?_
  refine py_fr (rn := rn) (by omega) hN (fun s hs => ?_)
  have es : s = nI f := ps_mi_u (ps_R_T (rn := rn) (ps_L_T K)) hs (ps_mi_1 f ⟨hf, hi⟩ (fun y a => hm y a.1 a.2))
  subst es
  have ef : (nI f).toNatClampNeg = f := nI_clamp (by omega)
  have iff : vp_in (nI f) 64 := vp_in_nI (by omega) (by decide)
  have nf := hN f hf
  refine br_f (nI_nlt hh (by omega)) (br_f (nI_pos (by omega)) (And.intro iff (nm_r (e' := upd ins f 0) (by rw [ef, ps_vb0]) (And.intro iff (ps_if (d := k.toInt < (K f).toInt) (by rw [ef]; exact ps_klt _ _) (fun q => ?_) (fun q => ?_))))))
  · refine And.intro iff ?_
    have er : N (nI f).toNatClampNeg + 1 = nI r := by rw [ef, nf.1, nI_1, r1 q]
    rw [er]
    exact py_117 (by omega) hp
  · refine And.intro iff ?_
    have er : N (nI f).toNatClampNeg = nI r := by rw [ef, nf.1, r2 q]
    rw [er]
    exact py_117 (by omega) hp
end
section
/-! the relation. -/
def ps_Com (T W A c R : Nat) (rn : Nat → Nat) (N : Nat → Int32) : Prop :=
  ps_T34 T ∧ 2 ≤ W ∧ W ≤ 8 ∧ 8 ≤ A ∧ A ≤ 64 ∧ c ≤ A ∧ (∀ x, x < c → N x = nI (rn x)) ∧ ps_Rn c R rn
def ps_Fd (W c h : Nat) (rn w : Nat → Nat) (wr : Nat → Prop) (K nx ws fo ins : Nat → Int32) (lW : Int32) : Prop :=
  h ≤ W ∧ (h < W → h = c ∧ lW = -1) ∧ ps_Feed c (ps_L K) rn wr nx fo lW ∧ ps_Ws c h w wr ∧ (∀ j, j < h → ws j = nI (w j)) ∧ (∀ x, x < c → (ins x = 0 ↔ wr x)) ∧ ps_cn ins c = h
def ps_Mg (T c n f d e : Nat) (fsN rcN own : Nat → Nat) (K nx rs fs rc hl : Nat → Int32) : Prop :=
  1 ≤ n ∧ n + T ≤ 10 ∧ f < T ∧ (ps_pa T n (T - 2) = d + e ∧ 1 ≤ e) ∧ ps_Rc T n f d rcN ∧ (∀ t, T ≤ t → t < 4 → rcN t = 0) ∧ (∀ t, t < 4 → fs t = nI (fsN t) ∧ fsN t < 32 ∧ rc t = nI (rcN t)) ∧ (∀ t, t < T → hl t = nI (rcN t)) ∧ ps_Own c (ps_L K) own (ps_live fsN rcN) nx rs
def ps_aft (K : Nat → Int32) (c : Nat) (la : Int32) (y : Nat) : Prop := y < c ∧ (la = -1 ∨ ∃ l, l < c ∧ la = nI l ∧ ps_L K l y)
def ps_So (T c f p : Nat) (la ur : Int32) (K nx rs fs rc hl : Nat → Int32) : Prop :=
  f < T ∧ p < 32 ∧ fs f = nI p ∧ (∀ t, t < T → rc t = hl t) ∧ ps_mi (ps_L K) (fun x => x < c) (rs (f * 32 + p)) ∧ (∀ x, x < c → ps_mi (ps_L K) (fun y => y < c ∧ ps_L K x y) (nx x)) ∧ (la = -1 ∨ ∃ l, l < c ∧ la = nI l) ∧ ps_mi (ps_L K) (ps_aft K c la) ur
def ps_RF (u : SX) (v : SY) : Prop := ∃ (T W A c R h : Nat) (rn w : Nat → Nat) (wr : Nat → Prop) (lW yl yo : Int32) (K V N nx ws fo pr rs fs rc mh ins row hl : Nat → Int32),
  ps_Com T W A c R rn N ∧ ps_Fd W c h rn w wr K nx ws fo ins lW ∧ u = (nI T, nI W, nI A, 0, nI c, nI R, nI h, lW, -1, -1, -1, -1, K, V, N, nx, ws, fo, pr, rs, fs, rc, mh) ∧ v = (nI T, nI W, nI A, 0, nI c, yl, yo, -1, K, V, N, ins, row, hl)
def ps_RMe (e : Nat) (u : SX) (v : SY) : Prop := ∃ (T W A c R n f d : Nat) (rn fsN rcN own : Nat → Nat) (lW : Int32) (K V N nx ws fo pr rs fs rc mh ins row hl : Nat → Int32),
  ps_Com T W A c R rn N ∧ ps_Mg T c n f d e fsN rcN own K nx rs fs rc hl ∧ (∀ x, x < 64 → ins x = 0) ∧ u = (nI T, nI W, nI A, 1, nI c, nI R, nI 0, lW, nI n, nI f, -1, -1, K, V, N, nx, ws, fo, pr, rs, fs, rc, mh) ∧ v = (nI T, nI W, nI A, 1, nI c, nI n, nI f, -1, K, V, N, ins, row, hl)
def ps_RM (u : SX) (v : SY) : Prop := ∃ e, ps_RMe e u v
def ps_RSl (la : Int32) (u : SX) (v : SY) : Prop := ∃ (T W A c R f p : Nat) (rn : Nat → Nat) (ur lW : Int32) (K V N nx ws fo pr rs fs rc mh ins row hl : Nat → Int32),
  ps_Com T W A c R rn N ∧ ps_So T c f p la ur K nx rs fs rc hl ∧ (∀ x, x < 64 → ins x = 0) ∧ u = (nI T, nI W, nI A, 2, nI c, nI R, nI 0, lW, 0, nI f, ur, la, K, V, N, nx, ws, fo, pr, rs, fs, rc, mh) ∧ v = (nI T, nI W, nI A, 2, nI c, 0, nI f, la, K, V, N, ins, row, hl)
def ps_RS (u : SX) (v : SY) : Prop := ∃ la, ps_RSl la u v
def i_Rel (k : Nat) (u : SX) (v : SY) : Prop := ps_RF u v ∨ ps_RM u v ∨ ps_RS u v
theorem i_up {k : Nat} {u : SX} {v : SY} (h : i_Rel k u v) : i_Rel (k + 3) u v := h
/-- what every stage has: the counts, the fields, what is inside -/
theorem ps_T4 {T : Nat} (h : ps_T34 T) : 3 ≤ T ∧ T ≤ 4 := by
  rcases h with e | e <;> omega
theorem ps_R32 {c R : Nat} {rn : Nat → Nat} (h : ps_Rn c R rn) (hc : c ≤ 64) : R ≤ 32 := by
  have := h.2.2.2.1
  omega
/-! clear and the constructors -/
theorem py_cll {yT yW yA yg yc yl yo yL : Int32} {K V N row hl : Nat → Int32} {post : SY → Prop} (hp : ∀ ins : Nat → Int32, (∀ x, x < 64 → ins x = 0) → post (yT, yW, yA, yg, yc, yl, yo, yL, K, V, N, ins, row, hl)) :
    ∀ n i (ins : Nat → Int32), i ≤ 64 → 64 - i < n → (∀ x, x < i → ins x = 0) → wY_clear_27 post yT yW yA yg yc yl yo yL n (nI i) K V N ins row hl := by
  intro n
  induction n with
  | zero => intro i ins _ h; omega
  | succ n ih =>
    intro i ins hi hn hz
    refine ps_if (d := 64 ≤ i) (nI_leI (a := 64) (by omega) (by omega)) (fun q => hp ins (fun x hx => hz x (by omega))) (fun q => ?_)
    refine And.intro (vp_in_nI (by omega) (by decide)) (nm_r (e' := upd ins i 0) (by rw [nI_clamp (by omega), ps_vb0]) (nm_r (nI_1 i) (ih (i + 1) (upd ins i 0) (by omega) (by omega) (fun x hx => ?_))))
    by_cases e : x = i
    · rw [e]; exact pk_us
    · rw [pk_un e]; exact hz x (by omega)
theorem py_clear {yT yW yA yg yc yl yo yL : Int32} {K V N ins row hl : Nat → Int32} {post : SY → Prop} (hp : ∀ ins : Nat → Int32, (∀ x, x < 64 → ins x = 0) → post (yT, yW, yA, 0, 0, 0, 0, -1, K, V, N, ins, row, hl)) : wpY_clear post (yT, yW, yA, yg, yc, yl, yo, yL, K, V, N, ins, row, hl) :=
  Exists.intro 65 (py_cll hp 65 0 ins (by omega) (by omega) (fun x h => absurd h (Nat.not_lt_zero x)))
theorem ps_fresh {T W A : Nat} (hT : ps_T34 T) (hW : 2 ≤ W) (hW8 : W ≤ 8) (hA : 8 ≤ A) (hA6 : A ≤ 64) {K V N nx ws fo pr rs fs rc mh ins row hl : Nat → Int32} :
    ps_RF (nI T, nI W, nI A, 0, 0, 0, 0, -1, -1, -1, -1, -1, K, V, N, nx, ws, fo, pr, rs, fs, rc, mh) (nI T, nI W, nI A, 0, 0, 0, 0, -1, K, V, N, ins, row, hl) :=
  ⟨T, W, A, 0, 0, 0, fun _ => 0, fun _ => 0, fun _ => False, -1, 0, 0, K, V, N, nx, ws, fo, pr, rs, fs, rc, mh, ins, row, hl,
    ⟨hT, hW, hW8, hA, hA6, by omega, fun x h => absurd h (Nat.not_lt_zero x), ps_Rn0 _⟩,
    ⟨by omega, fun _ => ⟨rfl, rfl⟩, ps_Feed0 _ _ _ _, ps_Ws0 _ _, fun j h => absurd h (Nat.not_lt_zero j), fun x h => absurd h (Nat.not_lt_zero x), rfl⟩, rfl, rfl⟩
theorem px_clear {tT wS rL sg rC gR hd lW lv oN ur cR : Int32} {K V N nx ws fo pr rs fs rc mh : Nat → Int32} {post : SX → Prop} (hp : post (tT, wS, rL, 0, 0, 0, 0, -1, -1, -1, -1, -1, K, V, N, nx, ws, fo, pr, rs, fs, rc, mh)) : wpX_clear post (tT, wS, rL, sg, rC, gR, hd, lW, lv, oN, ur, cR, K, V, N, nx, ws, fo, pr, rs, fs, rc, mh) := hp
theorem i_vc_clear {k : Nat} {u : SX} {v : SY} (I : i_Rel k u v) (hk : k + 3 ≤ 1539) : wpX_clear (fun u' => wpY_clear (fun v' => i_Rel (k + 3) u' v') v) u := by
  rcases I with I | I | I
  · obtain ⟨T, W, A, c, R, h, rn, w, wr, lW, yl, yo, K, V, N, nx, ws, fo, pr, rs, fs, rc, mh, ins, row, hl, HC, HF, rfl, rfl⟩ := I
    exact px_clear (py_clear (fun ins' _ => Or.inl (ps_fresh HC.1 HC.2.1 HC.2.2.1 HC.2.2.2.1 HC.2.2.2.2.1)))
  · obtain ⟨e, T, W, A, c, R, n, f, d, rn, fsN, rcN, own, lW, K, V, N, nx, ws, fo, pr, rs, fs, rc, mh, ins, row, hl, HC, HM, hin, rfl, rfl⟩ := I
    exact px_clear (py_clear (fun ins' _ => Or.inl (ps_fresh HC.1 HC.2.1 HC.2.2.1 HC.2.2.2.1 HC.2.2.2.2.1)))
  · obtain ⟨la, T, W, A, c, R, f, p, rn, ur, lW, K, V, N, nx, ws, fo, pr, rs, fs, rc, mh, ins, row, hl, HC, HS, hin, rfl, rfl⟩ := I
    exact px_clear (py_clear (fun ins' _ => Or.inl (ps_fresh HC.1 HC.2.1 HC.2.2.1 HC.2.2.2.1 HC.2.2.2.2.1)))
/-- a number put between two others -/
theorem ps_clm (x : Int32) (a b : Nat) (hab : a ≤ b) (hb : b < 1000) : ∃ j, a ≤ j ∧ j ≤ b ∧ ∀ P : Int32 → Prop, P (nI j) → wpX_clamp P x (nI a) (nI b) := by
  by_cases h : nI a ≤ x
  · by_cases g : x ≤ nI b
    · have p : ¬ x < 0 := Int32.not_lt.mpr (Int32.le_trans (nI_pos' (by omega)) h)
      obtain ⟨j, hj, ej⟩ := nI_of p
      subst ej
      exact ⟨j, (nI_leI (by omega) hj).1 h, (nI_leI hj (by omega)).1 g, fun P hP => br_t h (br_t g hP)⟩
    · exact ⟨b, hab, Nat.le_refl b, fun P hP => br_t h (br_f g hP)⟩
  · exact ⟨a, Nat.le_refl a, hab, fun P hP => br_f h hP⟩
theorem i_vc0 (k0 : Int32) (k1 : Int32) (k2 : Int32) : wpX_init (fun u => wpY_init (fun v => i_Rel 3 u v) k0 k1 k2) k0 k1 k2 := by
  obtain ⟨T, t3, t4, cT⟩ := ps_clm k0 3 4 (by omega) (by omega)
  obtain ⟨W, w2, w8, cW⟩ := ps_clm k1 2 8 (by omega) (by omega)
  obtain ⟨A, a8, a64, cA⟩ := ps_clm k2 8 64 (by omega) (by omega)
  have hT : ps_T34 T := by unfold ps_T34; omega
  unfold wpX_init
  refine cT _ (cW _ (cA _ ?_))
  show wpY_init _ k0 k1 k2
  refine cT (fun z => wY_init_70 _ k1 k2 z 0 0 0 0 0 0 0 0 (fun _ => 0) (fun _ => 0) (fun _ => 0) (fun _ => 0) (fun _ => 0) (fun _ => 0)) ?_
  refine cW (fun z => wY_init_95 _ k2 z (nI T) 0 0 0 0 0 0 0 (fun _ => 0) (fun _ => 0) (fun _ => 0) (fun _ => 0) (fun _ => 0) (fun _ => 0)) ?_
  refine cA (fun z => wY_init_122 _ z (nI T) (nI W) 0 0 0 0 0 0 (fun _ => 0) (fun _ => 0) (fun _ => 0) (fun _ => 0) (fun _ => 0) (fun _ => 0)) ?_
  exact py_clear (fun ins' _ => Or.inl (ps_fresh hT w2 w8 a8 a64))
end
section
/-! the getters. -/
theorem py_rnl {yT yW yA yg yl yo yL : Int32} {K V N ins row hl : Nat → Int32} {post : Int32 → Prop} {c R : Nat} {rn : Nat → Nat} (hc : c ≤ 64) (hN : ∀ x, x < c → N x = nI (rn x)) (hR : ps_Rn c R rn) (hp : post (nI R)) :
    ∀ n i m, i ≤ c → c - i < n → m ≤ R → (∀ y, y < i → rn y ≤ m) → wY_runs_4 post yT yW yA yg (nI c) yl yo yL K V N ins row hl n (nI m) (nI i) := by
  have h32 := ps_R32 hR hc
  intro n
  induction n with
  | zero => intro i m _ h; omega
  | succ n ih =>
    intro i m hi hn hm ha
    have ei : (nI i).toNatClampNeg = i := nI_clamp (by omega)
    have ii : i < c → vp_in (nI i) 64 := fun h => vp_in_nI (by omega) (by decide)
    refine ps_if (d := c ≤ i) (nI_leI (by omega) (by omega)) (fun q => ?_) (fun q => ?_)
    · have e : m = R := by
        by_cases c0 : c = 0
        · have := hR.2.1 c0; omega
        · obtain ⟨x, hx, ex⟩ := hR.2.2.1 (by omega)
          have := ha x (by omega)
          omega
      rw [e]; exact hp
    · have ic : i < c := by omega
      have ni := hN i ic
      have ri := hR.1 i ic
      refine And.intro (ii ic) (ps_if (d := rn i ≤ m) (by rw [ei, ni]; exact nI_leI (by omega) (by omega)) (fun z => ?_) (fun z => ?_))
      · refine nm_r (nI_1 i) (ih (i + 1) m (by omega) (by omega) hm (fun y hy => ?_))
        by_cases e : y = i
        · rw [e]; exact z
        · exact ha y (by omega)
      · refine And.intro (ii ic) (nm_r (e' := nI (rn i)) (by rw [ei]; exact ni) (nm_r (nI_1 i) (ih (i + 1) (rn i) (by omega) (by omega) ri.2 (fun y hy => ?_))))
        by_cases e : y = i
        · rw [e]; exact Nat.le_refl _
        · have := ha y (by omega); omega
theorem py_rn {yT yW yA yg yl yo yL : Int32} {K V N ins row hl : Nat → Int32} {post : Int32 → Prop} {c R : Nat} {rn : Nat → Nat} (hc : c ≤ 64) (hN : ∀ x, x < c → N x = nI (rn x)) (hR : ps_Rn c R rn) (hp : post (nI R)) : wpY_runs post (yT, yW, yA, yg, nI c, yl, yo, yL, K, V, N, ins, row, hl) :=
  Exists.intro (c + 1) (py_rnl hc hN hR hp (c + 1) 0 0 (by omega) (by omega) (by omega) (fun y h => absurd h (Nat.not_lt_zero y)))
theorem i_vc_runs {k : Nat} {u : SX} {v : SY} (I : i_Rel k u v) (hk : k + 3 ≤ 1539) : wpX_runs (fun r => wpY_runs (fun r' => r' = r ∧ i_Rel (k + 3) u v) v) u := by
  have I' := I
  rcases I with I | I | I
  · obtain ⟨T, W, A, c, R, h, rn, w, wr, lW, yl, yo, K, V, N, nx, ws, fo, pr, rs, fs, rc, mh, ins, row, hl, HC, HF, rfl, rfl⟩ := I
    exact py_rn (by have := HC.2.2.2.2.1; have := HC.2.2.2.2.2.1; omega) HC.2.2.2.2.2.2.1 HC.2.2.2.2.2.2.2 ⟨rfl, I'⟩
  · obtain ⟨e, T, W, A, c, R, n, f, d, rn, fsN, rcN, own, lW, K, V, N, nx, ws, fo, pr, rs, fs, rc, mh, ins, row, hl, HC, HM, hin, rfl, rfl⟩ := I
    exact py_rn (by have := HC.2.2.2.2.1; have := HC.2.2.2.2.2.1; omega) HC.2.2.2.2.2.2.1 HC.2.2.2.2.2.2.2 ⟨rfl, I'⟩
  · obtain ⟨la, T, W, A, c, R, f, p, rn, ur, lW, K, V, N, nx, ws, fo, pr, rs, fs, rc, mh, ins, row, hl, HC, HS, hin, rfl, rfl⟩ := I
    exact py_rn (by have := HC.2.2.2.2.1; have := HC.2.2.2.2.2.1; omega) HC.2.2.2.2.2.2.1 HC.2.2.2.2.2.2.2 ⟨rfl, I'⟩
theorem i_vc_count {k : Nat} {u : SX} {v : SY} (I : i_Rel k u v) (hk : k + 3 ≤ 1539) : wpX_count (fun r => wpY_count (fun r' => r' = r ∧ i_Rel (k + 3) u v) v) u := by
  have I' := I
  rcases I with I | I | I
  · obtain ⟨T, W, A, c, R, h, rn, w, wr, lW, yl, yo, K, V, N, nx, ws, fo, pr, rs, fs, rc, mh, ins, row, hl, HC, HF, rfl, rfl⟩ := I
    exact ⟨rfl, I'⟩
  · obtain ⟨e, T, W, A, c, R, n, f, d, rn, fsN, rcN, own, lW, K, V, N, nx, ws, fo, pr, rs, fs, rc, mh, ins, row, hl, HC, HM, hin, rfl, rfl⟩ := I
    exact ⟨rfl, I'⟩
  · obtain ⟨la, T, W, A, c, R, f, p, rn, ur, lW, K, V, N, nx, ws, fo, pr, rs, fs, rc, mh, ins, row, hl, HC, HS, hin, rfl, rfl⟩ := I
    exact ⟨rfl, I'⟩
theorem i_vc_level {k : Nat} {u : SX} {v : SY} (I : i_Rel k u v) (hk : k + 3 ≤ 1539) : wpX_level (fun r => wpY_level (fun r' => r' = r ∧ i_Rel (k + 3) u v) v) u := by
  have I' := I
  rcases I with I | I | I
  · obtain ⟨T, W, A, c, R, h, rn, w, wr, lW, yl, yo, K, V, N, nx, ws, fo, pr, rs, fs, rc, mh, ins, row, hl, HC, HF, rfl, rfl⟩ := I
    exact br_t rfl ⟨rfl, I'⟩
  · obtain ⟨e, T, W, A, c, R, n, f, d, rn, fsN, rcN, own, lW, K, V, N, nx, ws, fo, pr, rs, fs, rc, mh, ins, row, hl, HC, HM, hin, rfl, rfl⟩ := I
    exact br_f (by decide) ⟨rfl, I'⟩
  · obtain ⟨la, T, W, A, c, R, f, p, rn, ur, lW, K, V, N, nx, ws, fo, pr, rs, fs, rc, mh, ins, row, hl, HC, HS, hin, rfl, rfl⟩ := I
    exact br_f (by decide) ⟨rfl, I'⟩
theorem i_vc_outputTape {k : Nat} {u : SX} {v : SY} (I : i_Rel k u v) (hk : k + 3 ≤ 1539) : wpX_outputTape (fun r => wpY_outputTape (fun r' => r' = r ∧ i_Rel (k + 3) u v) v) u := by
  have I' := I
  rcases I with I | I | I
  · obtain ⟨T, W, A, c, R, h, rn, w, wr, lW, yl, yo, K, V, N, nx, ws, fo, pr, rs, fs, rc, mh, ins, row, hl, HC, HF, rfl, rfl⟩ := I
    exact br_t rfl ⟨rfl, I'⟩
  · obtain ⟨e, T, W, A, c, R, n, f, d, rn, fsN, rcN, own, lW, K, V, N, nx, ws, fo, pr, rs, fs, rc, mh, ins, row, hl, HC, HM, hin, rfl, rfl⟩ := I
    exact br_f (by decide) ⟨rfl, I'⟩
  · obtain ⟨la, T, W, A, c, R, f, p, rn, ur, lW, K, V, N, nx, ws, fo, pr, rs, fs, rc, mh, ins, row, hl, HC, HS, hin, rfl, rfl⟩ := I
    exact br_f (by decide) ⟨rfl, I'⟩
/-- both sides ask the same of a tape, after feeding -/
theorem ps_ro {wS rL sg rC gR hd lW lv oN ur cR : Int32} {K V N nx ws fo pr rs fs rc mh : Nat → Int32} {yW yA yg yc yl yo yL : Int32} {ins row hl : Nat → Int32} {JK JV JN : Nat → Int32} {T : Nat} {x : Int32} (hT : ps_T34 T) (hs : ¬ sg = 0) (hy : ¬ yg = 0) (e : ∀ t, t < T → rc t = hl t) {Q : Prop} (hQ : Q) :
    wpX_runsOn (fun r => wpY_runsOn (fun r' => r' = r ∧ Q) (nI T, yW, yA, yg, yc, yl, yo, yL, JK, JV, JN, ins, row, hl) x) (nI T, wS, rL, sg, rC, gR, hd, lW, lv, oN, ur, cR, K, V, N, nx, ws, fo, pr, rs, fs, rc, mh) x := by
  have t4 := ps_T4 hT
  refine br_f hs ?_
  by_cases h0 : x < 0
  · exact br_t h0 (br_f hy (br_t h0 ⟨rfl, hQ⟩))
  · refine br_f h0 ?_
    by_cases hx : x < nI T
    · obtain ⟨j, hj, ej⟩ := nI_of h0
      subst ej
      have jT := (nI_ltI hj (by omega)).1 hx
      have ij : vp_in (nI j) 4 := vp_in_nI (by omega) (by decide)
      refine br_t hx (And.intro ij (br_f hy (br_f h0 (br_t hx (And.intro ij ⟨?_, hQ⟩)))))
      rw [nI_clamp hj]; exact (e j jT).symm
    · exact br_f hx (br_f hy (br_f h0 (br_f hx ⟨rfl, hQ⟩)))
theorem i_vc_runsOn {k : Nat} {u : SX} {v : SY} (I : i_Rel k u v) (hk : k + 3 ≤ 1539) (v1 : Int32) : wpX_runsOn (fun r => wpY_runsOn (fun r' => r' = r ∧ i_Rel (k + 3) u v) v v1) u v1 := by
  have I' := I
  rcases I with I | I | I
  · obtain ⟨T, W, A, c, R, h, rn, w, wr, lW, yl, yo, K, V, N, nx, ws, fo, pr, rs, fs, rc, mh, ins, row, hl, HC, HF, rfl, rfl⟩ := I
    exact br_t rfl (br_t rfl ⟨rfl, I'⟩)
  · obtain ⟨e, T, W, A, c, R, n, f, d, rn, fsN, rcN, own, lW, K, V, N, nx, ws, fo, pr, rs, fs, rc, mh, ins, row, hl, HC, HM, hin, rfl, rfl⟩ := I
    refine ps_ro HC.1 (by decide) (by decide) (fun t ht => ?_) I'
    rw [HM.2.2.2.2.2.2.2.1 t ht]
    exact (HM.2.2.2.2.2.2.1 t (by have := ps_T4 HC.1; omega)).2.2
  · obtain ⟨la, T, W, A, c, R, f, p, rn, ur, lW, K, V, N, nx, ws, fo, pr, rs, fs, rc, mh, ins, row, hl, HC, HS, hin, rfl, rfl⟩ := I
    exact ps_ro HC.1 (by decide) (by decide) HS.2.2.2.1 I'
/-- field: one answer -/
def ps_fa (C : Int32) (K V N : Nat → Int32) (p q : Int32) : Int32 :=
  if q < 0 then -1 else if ¬ q ≤ 3 then -1 else if p < 0 ∨ ¬ p < C then (if q = 3 then -1 else 0)
  else if q = 0 then K p.toNatClampNeg else if q = 1 then V p.toNatClampNeg else if q = 2 then N p.toNatClampNeg else p
theorem px_fi {tT wS rL sg gR hd lW lv oN ur cR : Int32} {K V N nx ws fo pr rs fs rc mh : Nat → Int32} {post : Int32 → Prop} {c : Nat} {p q : Int32} (hc : c ≤ 64) (hp : post (ps_fa (nI c) K V N p q)) : wpX_field post (tT, wS, rL, sg, nI c, gR, hd, lW, lv, oN, ur, cR, K, V, N, nx, ws, fo, pr, rs, fs, rc, mh) p q := by
  unfold ps_fa at hp
  by_cases q0 : q < 0
  · rw [if_pos q0] at hp; exact br_t q0 hp
  rw [if_neg q0] at hp
  refine br_f q0 ?_
  by_cases q3 : q ≤ 3
  · rw [if_neg (not_not_intro q3)] at hp
    refine br_t q3 ?_
    by_cases p0 : p < 0
    · rw [if_pos (Or.inl p0)] at hp
      refine br_t p0 ?_
      by_cases e3 : q = 3
      · rw [if_pos e3] at hp; exact br_t e3 hp
      · rw [if_neg e3] at hp; exact br_f e3 hp
    · refine br_f p0 ?_
      by_cases pc : p < nI c
      · rw [if_neg (fun z => z.elim p0 (fun y => y pc))] at hp
        obtain ⟨j, hj, ej⟩ := nI_of p0
        have jc : j < c := by rw [ej] at pc; exact (nI_ltI hj (by omega)).1 pc
        have ip : vp_in p 64 := by rw [ej]; exact vp_in_nI (by omega) (by decide)
        refine br_t pc (br_f q0 ?_)
        by_cases q2 : 2 < q
        · have n0 : ¬ q = 0 := fun z => by rw [z] at q2; exact absurd q2 (by decide)
          have n1 : ¬ q = 1 := fun z => by rw [z] at q2; exact absurd q2 (by decide)
          have n2 : ¬ q = 2 := fun z => by rw [z] at q2; exact absurd q2 (by decide)
          rw [if_neg n0, if_neg n1, if_neg n2] at hp
          exact br_t q2 hp
        · refine br_f q2 ?_
          by_cases n0 : q = 0
          · rw [if_pos n0] at hp; exact br_t n0 ⟨ip, hp⟩
          · rw [if_neg n0] at hp
            refine br_f n0 ?_
            by_cases n1 : q = 1
            · rw [if_pos n1] at hp; exact br_t n1 ⟨ip, hp⟩
            · rw [if_neg n1] at hp
              refine br_f n1 ?_
              by_cases n2 : q = 2
              · rw [if_pos n2] at hp; exact br_t n2 ⟨ip, hp⟩
              · exact br_f n2 trivial
      · rw [if_pos (Or.inr pc)] at hp
        refine br_f pc ?_
        by_cases e3 : q = 3
        · rw [if_pos e3] at hp; exact br_t e3 hp
        · rw [if_neg e3] at hp; exact br_f e3 hp
  · rw [if_pos q3] at hp; exact br_f q3 hp
theorem py_fi {yT yW yA yg yl yo yL : Int32} {K V N ins row hl : Nat → Int32} {post : Int32 → Prop} {c : Nat} {p q : Int32} (hc : c ≤ 64) (hp : post (ps_fa (nI c) K V N p q)) : wpY_field post (yT, yW, yA, yg, nI c, yl, yo, yL, K, V, N, ins, row, hl) p q := by
  unfold ps_fa at hp
  by_cases q0 : q < 0
  · rw [if_pos q0] at hp; exact br_t q0 hp
  rw [if_neg q0] at hp
  refine br_f q0 ?_
  by_cases q3 : q ≤ 3
  · rw [if_neg (not_not_intro q3)] at hp
    refine br_t q3 ?_
    by_cases p0 : p < 0
    · rw [if_pos (Or.inl p0)] at hp
      refine br_t p0 ?_
      by_cases e3 : q = 3
      · rw [if_pos e3] at hp; exact br_t e3 hp
      · rw [if_neg e3] at hp; exact br_f e3 hp
    · refine br_f p0 ?_
      by_cases pc : p < nI c
      · rw [if_neg (fun z => z.elim p0 (fun y => y pc))] at hp
        obtain ⟨j, hj, ej⟩ := nI_of p0
        have jc : j < c := by rw [ej] at pc; exact (nI_ltI hj (by omega)).1 pc
        have ip : vp_in p 64 := by rw [ej]; exact vp_in_nI (by omega) (by decide)
        refine br_t pc ?_
        by_cases n0 : q = 0
        · rw [if_pos n0] at hp; exact br_t n0 ⟨ip, hp⟩
        · rw [if_neg n0] at hp
          refine br_f n0 ?_
          by_cases n1 : q = 1
          · rw [if_pos n1] at hp; exact br_t n1 ⟨ip, hp⟩
          · rw [if_neg n1] at hp
            refine br_f n1 ?_
            by_cases n2 : q = 2
            · rw [if_pos n2] at hp; exact br_t n2 ⟨ip, hp⟩
            · rw [if_neg n2] at hp; exact br_f n2 hp
      · rw [if_pos (Or.inr pc)] at hp
        refine br_f pc ?_
        by_cases e3 : q = 3
        · rw [if_pos e3] at hp; exact br_t e3 hp
        · rw [if_neg e3] at hp; exact br_f e3 hp
  · rw [if_pos q3] at hp; exact br_f q3 hp
theorem i_vc_field {k : Nat} {u : SX} {v : SY} (I : i_Rel k u v) (hk : k + 3 ≤ 1539) (v1 : Int32) (v2 : Int32) : wpX_field (fun r => wpY_field (fun r' => r' = r ∧ i_Rel (k + 3) u v) v v1 v2) u v1 v2 := by
  have I' := I
  rcases I with I | I | I
  · obtain ⟨T, W, A, c, R, h, rn, w, wr, lW, yl, yo, K, V, N, nx, ws, fo, pr, rs, fs, rc, mh, ins, row, hl, HC, HF, rfl, rfl⟩ := I
    have hc : c ≤ 64 := by have := HC.2.2.2.2.1; have := HC.2.2.2.2.2.1; omega
    exact px_fi hc (py_fi hc ⟨rfl, I'⟩)
  · obtain ⟨e, T, W, A, c, R, n, f, d, rn, fsN, rcN, own, lW, K, V, N, nx, ws, fo, pr, rs, fs, rc, mh, ins, row, hl, HC, HM, hin, rfl, rfl⟩ := I
    have hc : c ≤ 64 := by have := HC.2.2.2.2.1; have := HC.2.2.2.2.2.1; omega
    exact px_fi hc (py_fi hc ⟨rfl, I'⟩)
  · obtain ⟨la, T, W, A, c, R, f, p, rn, ur, lW, K, V, N, nx, ws, fo, pr, rs, fs, rc, mh, ins, row, hl, HC, HS, hin, rfl, rfl⟩ := I
    have hc : c ≤ 64 := by have := HC.2.2.2.2.1; have := HC.2.2.2.2.2.1; omega
    exact px_fi hc (py_fi hc ⟨rfl, I'⟩)
theorem i_vc_current {k : Nat} {u : SX} {v : SY} (I : i_Rel k u v) (hk : k + 3 ≤ 1539) (v1 : Int32) : wpX_current (fun r => wpY_current (fun r' => r' = r ∧ i_Rel (k + 3) u v) v v1) u v1 := by
  have I' := I
  rcases I with I | I | I
  · obtain ⟨T, W, A, c, R, h, rn, w, wr, lW, yl, yo, K, V, N, nx, ws, fo, pr, rs, fs, rc, mh, ins, row, hl, HC, HF, rfl, rfl⟩ := I
    have hc : c ≤ 64 := by have := HC.2.2.2.2.1; have := HC.2.2.2.2.2.1; omega
    unfold wpX_current wpY_current
    exact px_fi hc (py_fi hc ⟨rfl, I'⟩)
  · obtain ⟨e, T, W, A, c, R, n, f, d, rn, fsN, rcN, own, lW, K, V, N, nx, ws, fo, pr, rs, fs, rc, mh, ins, row, hl, HC, HM, hin, rfl, rfl⟩ := I
    have hc : c ≤ 64 := by have := HC.2.2.2.2.1; have := HC.2.2.2.2.2.1; omega
    unfold wpX_current wpY_current
    exact px_fi hc (py_fi hc ⟨rfl, I'⟩)
  · obtain ⟨la, T, W, A, c, R, f, p, rn, ur, lW, K, V, N, nx, ws, fo, pr, rs, fs, rc, mh, ins, row, hl, HC, HS, hin, rfl, rfl⟩ := I
    have hc : c ≤ 64 := by have := HC.2.2.2.2.1; have := HC.2.2.2.2.2.1; omega
    unfold wpX_current wpY_current
    exact px_fi hc (py_fi hc ⟨rfl, I'⟩)
/-- front, in any stage: the cells and what is inside -/
theorem ps_fro {tT wS rL sg gR lW lv oN ur cR : Int32} {K V N nx ws fo pr rs fs rc mh : Nat → Int32} {yT yW yA yg yl yo yL : Int32} {ins row hl : Nat → Int32} {JV : Nat → Int32} {h c : Nat} {w rn : Nat → Nat} {wr : Nat → Prop} (hc : c ≤ 64) (h8 : h ≤ 8) (hN : ∀ x, x < c → N x = nI (rn x) ∧ rn x < 1000) (Wk : ps_Ws c h w wr) (hw : ∀ j, j < h → ws j = nI (w j)) (hi : ∀ x, x < c → (ins x = 0 ↔ wr x)) {Q : Prop} (hQ : Q) :
    wpX_front (fun r => wpY_front (fun r' => r' = r ∧ Q) (yT, yW, yA, yg, nI c, yl, yo, yL, K, JV, N, ins, row, hl)) (tT, wS, rL, sg, nI c, gR, nI h, lW, lv, oN, ur, cR, K, V, N, nx, ws, fo, pr, rs, fs, rc, mh) := by
  have hT := ps_R_T (rn := rn) (ps_L_T K)
  by_cases h0 : h = 0
  · subst h0
    refine br_t rfl (py_fr (rn := rn) hc hN (fun s hs => ⟨?_, hQ⟩))
    refine ps_mi_u hT hs (ps_mi_0 (fun y a => ?_))
    obtain ⟨j, hj, _⟩ := Wk.2.2 y a.1 (fun z => a.2 ((hi y a.1).2 z))
    omega
  · refine br_f (nI_ne0 (by omega) (by omega)) ?_
    have C : px_Cl h w rn N ws := by
      refine ⟨h8, fun j hj => ?_, Wk.2.1⟩
      have a := Wk.1 j hj
      have n := hN _ a.1
      exact ⟨hw j hj, by omega, n.1, by omega⟩
    refine px_fc C (by omega) (fun b hb hm => And.intro (vp_in_nI (by omega) (by decide)) ?_)
    have wb := Wk.1 b hb
    refine py_fr (rn := rn) hc hN (fun s hs => ⟨?_, hQ⟩)
    rw [nI_clamp (by omega), hw b hb]
    refine ps_mi_u hT hs (ps_mi_1 (w b) ⟨wb.1, fun z => wb.2 ((hi _ wb.1).1 z)⟩ (fun y a => ?_))
    obtain ⟨j, hj, ej⟩ := Wk.2.2 y a.1 (fun z => a.2 ((hi y a.1).2 z))
    rcases hm j hj with e | e
    · left; rw [← ej, e]
    · right; rw [← ej]; exact e
theorem ps_hN {T W A c R : Nat} {rn : Nat → Nat} {N : Nat → Int32} (HC : ps_Com T W A c R rn N) : c ≤ 64 ∧ R ≤ 32 ∧ (∀ x, x < c → N x = nI (rn x) ∧ rn x < 1000) ∧ (∀ x, x < c → N x = nI (rn x) ∧ 1 ≤ rn x ∧ rn x ≤ 64) := by
  obtain ⟨_, _, _, _, a6, ca, hN, hR⟩ := HC
  have h32 := ps_R32 hR (by omega)
  refine ⟨by omega, h32, fun x hx => ⟨hN x hx, ?_⟩, fun x hx => ⟨hN x hx, ?_⟩⟩
  · have := hR.1 x hx; omega
  · have := hR.1 x hx; omega
theorem i_vc_front {k : Nat} {u : SX} {v : SY} (I : i_Rel k u v) (hk : k + 3 ≤ 1539) : wpX_front (fun r => wpY_front (fun r' => r' = r ∧ i_Rel (k + 3) u v) v) u := by
  have I' := I
  rcases I with I | I | I
  · obtain ⟨T, W, A, c, R, h, rn, w, wr, lW, yl, yo, K, V, N, nx, ws, fo, pr, rs, fs, rc, mh, ins, row, hl, HC, HF, rfl, rfl⟩ := I
    have hh := ps_hN HC
    exact ps_fro hh.1 (Nat.le_trans HF.1 HC.2.2.1) hh.2.2.1 HF.2.2.2.1 HF.2.2.2.2.1 HF.2.2.2.2.2.1 I'
  · obtain ⟨e, T, W, A, c, R, n, f, d, rn, fsN, rcN, own, lW, K, V, N, nx, ws, fo, pr, rs, fs, rc, mh, ins, row, hl, HC, HM, hin, rfl, rfl⟩ := I
    have hh := ps_hN HC
    exact ps_fro (h := 0) (w := fun _ => 0) (wr := fun _ => True) hh.1 (by omega) hh.2.2.1 ⟨fun j h => absurd h (Nat.not_lt_zero j), fun i _ h => absurd h (Nat.not_lt_zero i), fun x _ h => absurd trivial h⟩ (fun j h => absurd h (Nat.not_lt_zero j)) (fun x hx => ⟨fun _ => trivial, fun _ => hin x (by omega)⟩) I'
  · obtain ⟨la, T, W, A, c, R, f, p, rn, ur, lW, K, V, N, nx, ws, fo, pr, rs, fs, rc, mh, ins, row, hl, HC, HS, hin, rfl, rfl⟩ := I
    have hh := ps_hN HC
    exact ps_fro (h := 0) (w := fun _ => 0) (wr := fun _ => True) hh.1 (by omega) hh.2.2.1 ⟨fun j h => absurd h (Nat.not_lt_zero j), fun i _ h => absurd h (Nat.not_lt_zero i), fun x _ h => absurd trivial h⟩ (fun j h => absurd h (Nat.not_lt_zero j)) (fun x hx => ⟨fun _ => trivial, fun _ => hin x (by omega)⟩) I'
end
section
/-! put keeps the relation. -/
/-- the feeding state after a put into a free cell -/
theorem ps_FdF {T W A c R R' h : Nat} {rn w : Nat → Nat} {wr : Nat → Prop} {K V N nx ws fo ins : Nat → Int32} {lW k : Int32} (HC : ps_Com T W A c R rn N) (HF : ps_Fd W c h rn w wr K nx ws fo ins lW) (hc : c < A) (hh : h < W)
    (r0 : 1 ≤ R → R' = R) (r1 : R < 1 → R' = 1) :
    ps_Com T W A (c + 1) R' (ps_un rn c 1) (upd N c 1) ∧ ps_Fd W (c + 1) (h + 1) (ps_un rn c 1) (ps_un w h c) wr (upd K c k) nx (upd ws h (nI c)) fo (upd ins c 1) lW := by
  obtain ⟨hT, w2, w8, a8, a6, ca, hN, hR⟩ := HC
  obtain ⟨hW, hl, F, Wk, hw, hi, hn⟩ := HF
  have er : ∀ x, x < c → ps_un rn c 1 x = rn x := fun x hx => ps_uo (by omega)
  obtain ⟨hhc, lw⟩ := hl hh
  refine ⟨⟨hT, w2, w8, a8, a6, by omega, ?_, ?_⟩, by omega, ?_, ?_, ?_, ?_, ?_, ?_⟩
  · intro x hx
    by_cases e : x = c
    · rw [e, pk_us, ps_us]; rfl
    · rw [pk_un e, ps_uo e]; exact hN x (by omega)
  · by_cases R0 : 1 ≤ R
    · rw [r0 R0]; exact ps_RnA hR er (by rw [ps_us]; omega) (by rw [ps_us]; exact R0)
    · have c0 : c = 0 := by
        by_cases c0 : c = 0
        · exact c0
        · obtain ⟨x, hx, ex⟩ := hR.2.2.1 (by omega)
          have := hR.1 x hx
          omega
      have e0 : R = 0 := by omega
      rw [r1 (by omega)]
      have q := ps_RnB hR er (by rw [ps_us, e0]) (Or.inl c0)
      rw [e0] at q
      exact q
  · intro _; exact ⟨by omega, lw⟩
  · refine ps_add (ps_FeedC ps_LK er F) (fun _ => ps_us) (fun l el _ => ?_)
    rw [lw] at el
    exact absurd el.symm (ps_ne (by have := F.1 l (by assumption); omega))
  · exact ps_WsA Wk F.1
  · intro j hj
    by_cases e : j = h
    · rw [e, pk_us, ps_us]
    · rw [pk_un e, ps_uo e]; exact hw j (by omega)
  · intro x hx
    by_cases e : x = c
    · rw [e, pk_us]
      constructor
      · intro z; exact absurd z (by decide)
      · intro z; have := F.1 c z; omega
    · rw [pk_un e]; exact hi x (by omega)
  · rw [ps_cn_s, pk_us, if_neg (by decide), ps_cn_c (a := upd ins c 1) (b := ins) c (fun x hx => pk_un (by omega)), hn]
/-- the feeding state after a put that replaces the front -/
theorem ps_FdW {T W A c R R' h b r : Nat} {rn w : Nat → Nat} {wr : Nat → Prop} {K V N nx nx' ws fo fo' ins : Nat → Int32} {lW k : Int32} (HC : ps_Com T W A c R rn N) (HF : ps_Fd W c h rn w wr K nx ws fo ins lW) (hc : c < A) (hh : W ≤ h)
    (hb : b < h) (hm : ∀ y, y < c → ¬ wr y → y = w b ∨ ps_R rn (ps_L K) (w b) y) (k1 : k.toInt < (K (w b)).toInt → r = rn (w b) + 1) (k2 : ¬ k.toInt < (K (w b)).toInt → r = rn (w b)) (r0 : r ≤ R → R' = R) (r1 : R < r → R' = r)
    (F' : ps_Feed c (ps_L (upd K c k)) (ps_un rn c r) (fun x => wr x ∨ x = w b) nx' fo' (nI (w b))) :
    ps_Com T W A (c + 1) R' (ps_un rn c r) (upd N c (nI r)) ∧ ps_Fd W (c + 1) h (ps_un rn c r) (ps_un w b c) (fun x => wr x ∨ x = w b) (upd K c k) nx' (upd ws b (nI c)) fo' (upd (upd ins (w b) 0) c 1) (nI (w b)) := by
  obtain ⟨hT, w2, w8, a8, a6, ca, hN, hR⟩ := HC
  obtain ⟨hW, hl, F, Wk, hw, hi, hn⟩ := HF
  have er : ∀ x, x < c → ps_un rn c r x = rn x := fun x hx => ps_uo (by omega)
  have wb := Wk.1 b hb
  have rb := hR.1 _ wb.1
  have rr : r = rn (w b) ∨ r = rn (w b) + 1 := by
    by_cases z : k.toInt < (K (w b)).toInt
    · exact Or.inr (k1 z)
    · exact Or.inl (k2 z)
  refine ⟨⟨hT, w2, w8, a8, a6, by omega, ?_, ?_⟩, hW, ?_, ?_, ?_, ?_, ?_, ?_⟩
  · intro x hx
    by_cases e : x = c
    · rw [e, pk_us, ps_us]
    · rw [pk_un e, ps_uo e]; exact hN x (by omega)
  · by_cases q : r ≤ R
    · rw [r0 q]; exact ps_RnA hR er (by rw [ps_us]; omega) (by rw [ps_us]; exact q)
    · have e : r = R + 1 := by omega
      have eb : rn (w b) = R := by omega
      rw [r1 (by omega), e]
      refine ps_RnB hR (by rw [← e]; exact er) ps_us (Or.inr ⟨w 0, w 1, (Wk.1 0 (by omega)).1, (Wk.1 1 (by omega)).1, ?_, ?_, ?_⟩)
      · intro z; have := Wk.2.1 0 1 (by omega) (by omega) z; omega
      · have a := Wk.1 0 (by omega)
        have a1 := hR.1 _ a.1
        rcases hm _ a.1 a.2 with z | z
        · rw [z]; exact eb
        · have := ps_R_le z; omega
      · have a := Wk.1 1 (by omega)
        have a1 := hR.1 _ a.1
        rcases hm _ a.1 a.2 with z | z
        · rw [z]; exact eb
        · have := ps_R_le z; omega
  · intro z; omega
  · refine ps_add F' (fun z => absurd z (ps_ne (by omega))) (fun l el hl' => ?_)
    have e : w b = l := by
      refine ps_inj (by omega) ?_ el
      rcases hl' with z | z
      · have := F.1 l z; omega
      · omega
    rw [← e, ps_us, er _ wb.1]
    refine ⟨?_, by omega⟩
    by_cases z : k.toInt < (K (w b)).toInt
    · left; rw [ps_us, er _ wb.1, k1 z]; omega
    · right
      refine ⟨by rw [ps_us, er _ wb.1, k2 z], ?_⟩
      unfold ps_L
      rw [pk_us, pk_un (by omega)]
      omega
  · exact ps_WsB Wk F.1 hb
  · intro j hj
    by_cases e : j = b
    · rw [e, pk_us, ps_us]
    · rw [pk_un e, ps_uo e]; exact hw j hj
  · intro x hx
    by_cases e : x = c
    · rw [e, pk_us]
      constructor
      · intro z; exact absurd z (by decide)
      · intro z
        rcases z with z | z
        · have := F.1 c z; omega
        · omega
    · rw [pk_un e]
      by_cases e2 : x = w b
      · rw [e2, pk_us]; exact ⟨fun _ => Or.inr rfl, fun _ => rfl⟩
      · rw [pk_un e2]
        constructor
        · intro z; exact Or.inl ((hi x (by omega)).1 z)
        · intro z
          rcases z with z | z
          · exact (hi x (by omega)).2 z
          · exact absurd z e2
  · rw [ps_cn_s, pk_us, if_neg (by decide), ps_cn_c (a := upd (upd ins (w b) 0) c 1) (b := upd ins (w b) 0) c (fun x hx => pk_un (by omega))]
    rw [ps_cn_u (fun z => wb.2 ((hi _ wb.1).1 z)) c wb.1]
    exact hn
theorem i_vc_put {k : Nat} {u : SX} {v : SY} (I : i_Rel k u v) (hk : k + 3 ≤ 1539) (v1 : Int32) (v2 : Int32) : wpX_put (fun r u' => wpY_put (fun r' v' => r' = r ∧ i_Rel (k + 3) u' v') v v1 v2) u v1 v2 := by
  have I' := I
  rcases I with I | I | I
  · obtain ⟨T, W, A, c, R, h, rn, w, wr, lW, yl, yo, K, V, N, nx, ws, fo, pr, rs, fs, rc, mh, ins, row, hl, HC, HF, rfl, rfl⟩ := I
    have hh := ps_hN HC
    obtain ⟨hT, w2, w8, a8, a6, ca, hN, hR⟩ := HC
    have HC : ps_Com T W A c R rn N := ⟨hT, w2, w8, a8, a6, ca, hN, hR⟩
    have HF2 := HF
    obtain ⟨hW, _, F, Wk, hw, hi, hn⟩ := HF2
    by_cases cA : c < A
    · by_cases hf : h < W
      · refine px_putF a6 w8 cA hf (by omega) (fun q => ?_) (fun q => ?_)
        · have G := ps_FdF (k := v1) (V := V) HC HF cA hf (R' := R) (fun _ => rfl) (fun z => by omega)
          exact py_putF (rn := rn) a6 w8 cA (by omega) hh.2.2.1 ⟨rfl, Or.inl ⟨T, W, A, c + 1, R, h + 1, ps_un rn c 1, ps_un w h c, wr, lW, yl, yo, upd K c v1, upd V c v2, upd N c 1, nx, upd ws h (nI c), fo, pr, rs, fs, rc, mh, upd ins c 1, row, hl, G.1, G.2, rfl, rfl⟩⟩
        · have G := ps_FdF (k := v1) (V := V) HC HF cA hf (R' := 1) (fun z => by omega) (fun _ => rfl)
          exact py_putF (rn := rn) a6 w8 cA (by omega) hh.2.2.1 ⟨rfl, Or.inl ⟨T, W, A, c + 1, 1, h + 1, ps_un rn c 1, ps_un w h c, wr, lW, yl, yo, upd K c v1, upd V c v2, upd N c 1, nx, upd ws h (nI c), fo, pr, rs, fs, rc, mh, upd ins c 1, row, hl, G.1, G.2, rfl, rfl⟩⟩
      · refine px_putW (w := w) (rn := rn) (wr := wr) a6 cA (by omega) (by omega) (by omega) (by omega) F hh.2.2.2 Wk hw (fun b r R' hb hm k1 k2 r0 r1 nx' fo' F' => ?_)
        have wb := Wk.1 b hb
        have G := ps_FdW (V := V) HC HF cA (by omega) hb hm k1 k2 r0 r1 F'
        refine py_putW (rn := rn) (r := r) a6 cA (by omega) hh.2.2.1 wb.1 (fun z => wb.2 ((hi _ wb.1).1 z)) (fun y hy z => hm y hy (fun a => z ((hi y hy).2 a))) k1 k2 ⟨rfl, Or.inl ⟨T, W, A, c + 1, R', h, ps_un rn c r, ps_un w b c, fun x => wr x ∨ x = w b, nI (w b), yl, yo, upd K c v1, upd V c v2, upd N c (nI r), nx', upd ws b (nI c), fo', pr, rs, fs, rc, mh, upd (upd ins (w b) 0) c 1, row, hl, G.1, G.2, rfl, rfl⟩⟩
    · refine br_t rfl (ps_if (d := c < A) (nI_ltI (by omega) (by omega)) (fun q => absurd q cA) (fun _ => ?_))
      refine br_t rfl (ps_if (d := c = A) (nI_eq (by omega) (by omega)) (fun _ => ⟨rfl, I'⟩) (fun q => absurd (by omega : c = A) q))
  · obtain ⟨e, T, W, A, c, R, n, f, d, rn, fsN, rcN, own, lW, K, V, N, nx, ws, fo, pr, rs, fs, rc, mh, ins, row, hl, HC, HM, hin, rfl, rfl⟩ := I
    exact br_f (by decide) (br_f (by decide) ⟨rfl, I'⟩)
  · obtain ⟨la, T, W, A, c, R, f, p, rn, ur, lW, K, V, N, nx, ws, fo, pr, rs, fs, rc, mh, ins, row, hl, HC, HS, hin, rfl, rfl⟩ := I
    exact br_f (by decide) (br_f (by decide) ⟨rfl, I'⟩)
end
section
/-! finish, the component's side. -/
theorem px_ewl {tT wS rL sg rC gR lv oN ur cR : Int32} {K V N pr rs fs rc mh : Nat → Int32} {post : SX → Prop} {c : Nat} {rn : Nat → Nat} (hc : c ≤ 64) (hN : ∀ x, x < c → N x = nI (rn x) ∧ 1 ≤ rn x ∧ rn x ≤ 64)
    (hp : ∀ (lW : Int32) (nx ws fo : Nat → Int32) (wr : Nat → Prop), (∀ x, x < c → wr x) → ps_Feed c (ps_L K) rn wr nx fo lW → post (tT, wS, rL, sg, rC, gR, nI 0, lW, lv, oN, ur, cR, K, V, N, nx, ws, fo, pr, rs, fs, rc, mh)) :
    ∀ (h n i : Nat) (lW : Int32) (nx ws fo : Nat → Int32) (w : Nat → Nat) (wr : Nat → Prop), h + i ≤ 8 → h < n → ps_Feed c (ps_L K) rn wr nx fo lW → ps_Ws c h w wr → (∀ j, j < h → ws j = nI (w j)) → wX_emptyWorkspace_2 post n (nI i) tT wS rL sg rC gR (nI h) lW lv oN ur cR K V N nx ws fo pr rs fs rc mh := by
  intro h
  induction h with
  | zero =>
    intro n i lW nx ws fo w wr hi hn F Wk hw
    obtain ⟨n, rfl⟩ : ∃ m, n = m + 1 := ⟨n - 1, by omega⟩
    have al : ∀ x, x < c → wr x := by
      intro x hx
      by_cases q : wr x
      · exact q
      · obtain ⟨j, hj, _⟩ := Wk.2.2 x hx q
        omega
    have g := hp lW nx ws fo wr al F
    exact br_c (fun _ => g) (fun _ => br_c (fun _ => g) (fun z => absurd (nI_le (a := 0) (b := 0) (by omega) (by omega)) z))
  | succ h ih =>
    intro n i lW nx ws fo w wr hi hn F Wk hw
    obtain ⟨n, rfl⟩ : ∃ m, n = m + 1 := ⟨n - 1, by omega⟩
    have C : px_Cl (h + 1) w rn N ws := by
      refine ⟨by omega, fun j hj => ?_, Wk.2.1⟩
      have a := Wk.1 j hj
      have n := hN _ a.1
      exact ⟨hw j hj, by omega, n.1, by omega⟩
    refine br_f (nI_ge (b := 8) (by omega) (by decide)) (br_f (nI_nle (by omega) (by omega)) ?_)
    refine px_fc C (by omega) (fun b hb hmin => ?_)
    have wb := Wk.1 b hb
    have hm : ∀ y, y < c → ¬ wr y → y = w b ∨ ps_R rn (ps_L K) (w b) y := by
      intro y hy hwy
      obtain ⟨j, hj, ej⟩ := Wk.2.2 y hy hwy
      rcases hmin j hj with q | q
      · left; rw [← ej, q]
      · right; rw [← ej]; exact q
    have ib : vp_in (nI b) 8 := vp_in_nI (by omega) (by decide)
    refine And.intro ib ?_
    have eb : ws (nI b).toNatClampNeg = nI (w b) := by rw [nI_clamp (by omega)]; exact hw b hb
    rw [eb]
    refine px_wo hc F hN wb.1 wb.2 hm (fun nx' fo' F' => ?_)
    have eh : ws (nI h).toNatClampNeg = nI (w h) := by rw [nI_clamp (by omega)]; exact hw h (by omega)
    refine nm_r (nI_pred h) (And.intro (vp_in_nI (by omega) (by decide)) (And.intro ib (nm_r (e' := upd ws b (nI (w h))) (by rw [eh, nI_clamp (by omega)]) (nm_r (nI_1 i) ?_))))
    refine ih n (i + 1) (nI (w b)) nx' (upd ws b (nI (w h))) fo' (ps_un w b (w h)) (fun x => wr x ∨ x = w b) (by omega) (by omega) F' (ps_WsC Wk hb) (fun j hj => ?_)
    by_cases e : j = b
    · rw [e, pk_us, ps_us]
    · rw [pk_un e, ps_uo e]; exact hw j (by omega)
theorem px_ew {tT wS rL sg rC gR lW lv oN ur cR : Int32} {K V N nx ws fo pr rs fs rc mh : Nat → Int32} {post : SX → Prop} {c h : Nat} {rn w : Nat → Nat} {wr : Nat → Prop} (hc : c ≤ 64) (h8 : h ≤ 8) (hN : ∀ x, x < c → N x = nI (rn x) ∧ 1 ≤ rn x ∧ rn x ≤ 64)
    (F : ps_Feed c (ps_L K) rn wr nx fo lW) (Wk : ps_Ws c h w wr) (hw : ∀ j, j < h → ws j = nI (w j))
    (hp : ∀ (lW : Int32) (nx ws fo : Nat → Int32) (wr : Nat → Prop), (∀ x, x < c → wr x) → ps_Feed c (ps_L K) rn wr nx fo lW → post (tT, wS, rL, sg, rC, gR, nI 0, lW, lv, oN, ur, cR, K, V, N, nx, ws, fo, pr, rs, fs, rc, mh)) : wpX_emptyWorkspace post (tT, wS, rL, sg, rC, gR, nI h, lW, lv, oN, ur, cR, K, V, N, nx, ws, fo, pr, rs, fs, rc, mh) :=
  Exists.intro (h + 1) (px_ewl hc hN hp h (h + 1) 0 lW nx ws fo w wr (by omega) (by omega) F Wk hw)
/-! the level -/
def ps_sm (T n : Nat) : Nat → Nat
  | 0 => 0
  | j + 1 => ps_sm T n j + ps_pa T n j
theorem ps_sm_tt {T n : Nat} (hT : ps_T34 T) : ps_sm T n (T - 1) = ps_tt T n := by
  rcases hT with e | e
  · subst e
    have z : ps_pa 3 n 2 = 0 := ps_pa_0 (Or.inl rfl) (by omega)
    show 0 + ps_pa 3 n 0 + ps_pa 3 n 1 = ps_pa 3 n 0 + ps_pa 3 n 1 + ps_pa 3 n 2
    omega
  · subst e
    show 0 + ps_pa 4 n 0 + ps_pa 4 n 1 + ps_pa 4 n 2 = ps_pa 4 n 0 + ps_pa 4 n 1 + ps_pa 4 n 2
    omega
theorem ps_pab {T n : Nat} (hT : ps_T34 T) (hn : n + T ≤ 10) (j : Nat) : ps_pa T n j ≤ 24 := by
  rcases hT with e | e
  · subst e
    have t := ps_tab3 n (by omega)
    by_cases a : j = 0
    · subst a; omega
    · by_cases b : j = 1
      · subst b; omega
      · rw [ps_pa_0 (Or.inl rfl) (by omega)]; omega
  · subst e
    have t := ps_tab4 n (by omega)
    by_cases a : j = 0
    · subst a; omega
    · by_cases b : j = 1
      · subst b; omega
      · by_cases d : j = 2
        · subst d; omega
        · rw [ps_pa_0 (Or.inr rfl) (by omega)]; omega
theorem ps_ttb {T n : Nat} (hT : ps_T34 T) (hn : n + T ≤ 10) : ps_tt T n ≤ 72 := by
  have a := ps_pab hT hn 0
  have b := ps_pab hT hn 1
  have c := ps_pab hT hn 2
  unfold ps_tt
  omega
theorem px_rpl {wS rL sg rC gR hd lW lv oN ur cR : Int32} {K V N nx ws fo rs fs rc mh : Nat → Int32} {post : SX → Prop} {T n : Nat} (hT : ps_T34 T) (hp : ∀ pr : Nat → Int32, (∀ j, j < 4 → pr j = nI (ps_pa T (n + 1) j)) → post (nI T, wS, rL, sg, rC, gR, hd, lW, lv, oN, ur, cR, K, V, N, nx, ws, fo, pr, rs, fs, rc, mh)) :
    ∀ m i (pr : Nat → Int32), i + 1 ≤ T → T - 1 - i < m → (∀ j, j < i → pr j = nI (ps_pa T (n + 1) j)) → (∀ j, i ≤ j → j < 4 → pr j = nI (ps_pa T n j)) → wX_raisePerfectRow_9 post (nI (ps_pa T n 0)) (nI T) wS rL sg rC gR hd lW lv oN ur cR m (nI i) K V N nx ws fo pr rs fs rc mh := by
  have t4 := ps_T4 hT
  have e1 : nI T - 1 = nI (T - 1) := ps_p1 (by omega)
  intro m
  induction m with
  | zero => intro i pr _ h; omega
  | succ m ih =>
    intro i pr hi hm h0 h1
    refine ps_if (d := T - 1 ≤ i) (by rw [e1]; exact nI_leI (by omega) (by omega)) (fun q => hp pr (fun j hj => ?_)) (fun q => ?_)
    · by_cases ji : j < i
      · exact h0 j ji
      · rw [h1 j (by omega) hj, ps_pa_0 hT (by omega), ps_pa_0 hT (by omega)]
    · have ei : (nI i).toNatClampNeg = i := nI_clamp (by omega)
      have en : (nI i + 1).toNatClampNeg = i + 1 := by rw [nI_1]; exact nI_clamp (by omega)
      have v : nI (ps_pa T n 0) + pr (i + 1) = nI (ps_pa T (n + 1) i) := by
        rw [h1 (i + 1) (by omega) (by omega), nI_add, ps_pa_s, if_pos (by omega)]
      refine And.intro (by rw [nI_1]; exact vp_in_nI (by omega) (by decide)) (And.intro (vp_in_nI (by omega) (by decide)) (nm_r (e' := upd pr i (nI (ps_pa T (n + 1) i))) (by rw [en, ei, v]) (nm_r (nI_1 i) (ih (i + 1) _ (by omega) (by omega) (fun j hj => ?_) (fun j hj hj4 => ?_)))))
      · by_cases e : j = i
        · rw [e, pk_us]
        · rw [pk_un e]; exact h0 j (by omega)
      · rw [pk_un (by omega)]; exact h1 j (by omega) hj4
theorem px_rp {wS rL sg rC gR hd lW lv oN ur cR : Int32} {K V N nx ws fo pr rs fs rc mh : Nat → Int32} {post : SX → Prop} {T n : Nat} (hT : ps_T34 T) (h : ∀ j, j < 4 → pr j = nI (ps_pa T n j)) (hp : ∀ pr : Nat → Int32, (∀ j, j < 4 → pr j = nI (ps_pa T (n + 1) j)) → post (nI T, wS, rL, sg, rC, gR, hd, lW, lv, oN, ur, cR, K, V, N, nx, ws, fo, pr, rs, fs, rc, mh)) : wpX_raisePerfectRow post (nI T, wS, rL, sg, rC, gR, hd, lW, lv, oN, ur, cR, K, V, N, nx, ws, fo, pr, rs, fs, rc, mh) := by
  have t4 := ps_T4 hT
  exact nm_r (h 0 (by omega)) (Exists.intro T (px_rpl hT hp T 0 pr (by omega) (by omega) (fun j hj => absurd hj (Nat.not_lt_zero j)) (fun j _ hj => h j hj)))
theorem px_ptl {wS rL sg rC gR hd lW lv oN ur cR : Int32} {K V N nx ws fo pr rs fs rc mh : Nat → Int32} {post : Int32 → Prop} {T n : Nat} (hT : ps_T34 T) (h : ∀ j, j < 4 → pr j = nI (ps_pa T n j)) (hp : post (nI (ps_tt T n))) :
    ∀ m i, i + 1 ≤ T → T - 1 - i < m → wX_perfectTotal_4 post (nI T) wS rL sg rC gR hd lW lv oN ur cR K V N nx ws fo pr rs fs rc mh m (nI (ps_sm T n i)) (nI i) := by
  have t4 := ps_T4 hT
  have e1 : nI T - 1 = nI (T - 1) := ps_p1 (by omega)
  intro m
  induction m with
  | zero => intro i _ h; omega
  | succ m ih =>
    intro i hi hm
    refine ps_if (d := T - 1 ≤ i) (by rw [e1]; exact nI_leI (by omega) (by omega)) (fun q => ?_) (fun q => ?_)
    · have e : i = T - 1 := by omega
      rw [e, ps_sm_tt hT]; exact hp
    · have ei : (nI i).toNatClampNeg = i := nI_clamp (by omega)
      refine And.intro (vp_in_nI (by omega) (by decide)) (nm_r (e' := nI (ps_sm T n (i + 1))) (by rw [ei, h i (by omega), nI_add]; rfl) (nm_r (nI_1 i) (ih (i + 1) (by omega) (by omega))))
theorem px_pt {wS rL sg rC gR hd lW lv oN ur cR : Int32} {K V N nx ws fo pr rs fs rc mh : Nat → Int32} {post : Int32 → Prop} {T n : Nat} (hT : ps_T34 T) (h : ∀ j, j < 4 → pr j = nI (ps_pa T n j)) (hp : post (nI (ps_tt T n))) : wpX_perfectTotal post (nI T, wS, rL, sg, rC, gR, hd, lW, lv, oN, ur, cR, K, V, N, nx, ws, fo, pr, rs, fs, rc, mh) := by
  have t4 := ps_T4 hT
  exact Exists.intro T (px_ptl hT h hp T 0 (by omega) (by omega))
theorem px_c36 {wS rL sg rC hd lW oN ur cR : Int32} {K V N nx ws fo rs fs rc mh : Nat → Int32} {post : SX → Prop} {T R n : Nat} (hT : ps_T34 T) (hR : R ≤ 32) (hn : n + T ≤ 10) (h1 : R ≤ ps_tt T n) (h2 : ∀ m, m < n → ps_tt T m < R)
    (hp : ∀ pr : Nat → Int32, (∀ j, j < 4 → pr j = nI (ps_pa T n j)) → post (nI T, wS, rL, sg, rC, nI R, hd, lW, nI n, oN, ur, cR, K, V, N, nx, ws, fo, pr, rs, fs, rc, mh)) :
    ∀ m i (pr : Nat → Int32), i ≤ n → n - i < m → (∀ j, j < 4 → pr j = nI (ps_pa T i j)) → wX_chooseLevel_36 post m (nI (ps_tt T i)) (nI i) (nI T) wS rL sg rC (nI R) hd lW (nI i) oN ur cR K V N nx ws fo pr rs fs rc mh := by
  have t4 := ps_T4 hT
  intro m
  induction m with
  | zero => intro i pr _ h; omega
  | succ m ih =>
    intro i pr hi hm h
    have tb := ps_ttb hT (n := i) (by omega)
    have fin : i = n → post (nI T, wS, rL, sg, rC, nI R, hd, lW, nI i, oN, ur, cR, K, V, N, nx, ws, fo, pr, rs, fs, rc, mh) := by
      intro e
      subst e
      exact hp pr h
    refine ps_if (d := 7 ≤ i) (nI_leI (a := 7) (by omega) (by omega)) (fun q => fin (by omega)) (fun q => ps_if (d := R ≤ ps_tt T i) (nI_leI (by omega) (by omega)) (fun z => fin ?_) (fun z => ?_))
    · by_cases e : i = n
      · exact e
      · have := h2 i (by omega); omega
    · have il : i < n := by
        by_cases e : i = n
        · rw [e] at z; exact absurd h1 z
        · omega
      refine px_rp hT h (fun pr' h' => nm_r (nI_1 i) ?_)
      exact px_pt hT h' (nm_r (nI_1 i) (ih (i + 1) pr' (by omega) (by omega) h'))
theorem px_c9 {tT wS rL sg rC gR hd lW lv oN ur cR : Int32} {K V N nx ws fo rs fs rc mh : Nat → Int32} {post : SX → Prop} {T : Nat} (hT : ps_T34 T) (hp : ∀ pr : Nat → Int32, (∀ j, j < 4 → pr j = nI (ps_pa T 0 j)) → ∃ n36 : Nat, wX_chooseLevel_36 post n36 1 0 tT wS rL sg rC gR hd lW 0 oN ur cR K V N nx ws fo pr rs fs rc mh) :
    ∀ m i (pr : Nat → Int32), 1 ≤ i → i ≤ 4 → 4 - i < m → pr 0 = 1 → (∀ j, 1 ≤ j → j < i → pr j = 0) → wX_chooseLevel_9 post tT wS rL sg rC gR hd lW lv oN ur cR m (nI i) K V N nx ws fo pr rs fs rc mh := by
  intro m
  induction m with
  | zero => intro i pr _ _ h; omega
  | succ m ih =>
    intro i pr i1 i4 hm p0 pz
    refine ps_if (d := 4 ≤ i) (nI_leI (a := 4) (by omega) (by omega)) (fun q => hp pr (fun j hj => ?_)) (fun q => ?_)
    · by_cases e : j = 0
      · rw [e]; exact p0
      · rw [pz j (by omega) (by omega)]
        have : ps_pa T 0 j = 0 := if_neg e
        rw [this]; rfl
    · refine And.intro (vp_in_nI (by omega) (by decide)) (nm_r (e' := upd pr i 0) (by rw [nI_clamp (by omega)]) (nm_r (nI_1 i) (ih (i + 1) _ (by omega) (by omega) (by omega) ?_ (fun j j1 ji => ?_))))
      · rw [pk_un (by omega)]; exact p0
      · by_cases e : j = i
        · rw [e, pk_us]
        · rw [pk_un e]; exact pz j j1 (by omega)
theorem px_ch {wS rL sg rC hd lW lv oN ur cR : Int32} {K V N nx ws fo pr rs fs rc mh : Nat → Int32} {post : SX → Prop} {T R n : Nat} (hT : ps_T34 T) (hR : R ≤ 32) (hn : n + T ≤ 10) (h1 : R ≤ ps_tt T n) (h2 : ∀ m, m < n → ps_tt T m < R)
    (hp : ∀ pr : Nat → Int32, (∀ j, j < 4 → pr j = nI (ps_pa T n j)) → post (nI T, wS, rL, sg, rC, nI R, hd, lW, nI n, oN, ur, cR, K, V, N, nx, ws, fo, pr, rs, fs, rc, mh)) : wpX_chooseLevel post (nI T, wS, rL, sg, rC, nI R, hd, lW, lv, oN, ur, cR, K, V, N, nx, ws, fo, pr, rs, fs, rc, mh) := by
  refine nm_e (Exists.intro 4 (px_c9 hT (fun pr' h' => ?_) 4 1 (upd pr 0 1) (by omega) (by omega) (by omega) pk_us (fun j a b => by omega)))
  have g := px_c36 hT hR hn h1 h2 hp (n + 1) 0 pr' (by omega) (by omega) h'
  have e0 : ps_tt T 0 = 1 := rfl
  rw [e0] at g
  exact Exists.intro (n + 1) g
end
section
/-! the runs are spread over the tapes. -/
theorem px_etl {tT wS rL sg rC gR hd lW lv oN ur cR : Int32} {K V N nx ws fo pr rs mh : Nat → Int32} {post : SX → Prop} (hp : ∀ fs rc : Nat → Int32, (∀ t, t < 4 → fs t = 0 ∧ rc t = 0) → post (tT, wS, rL, sg, rC, gR, hd, lW, lv, oN, ur, cR, K, V, N, nx, ws, fo, pr, rs, fs, rc, mh)) :
    ∀ m i (fs rc : Nat → Int32), i ≤ 4 → 4 - i < m → (∀ t, t < i → fs t = 0 ∧ rc t = 0) → wX_emptyTapes_2 post tT wS rL sg rC gR hd lW lv oN ur cR m (nI i) K V N nx ws fo pr rs fs rc mh := by
  intro m
  induction m with
  | zero => intro i fs rc _ h; omega
  | succ m ih =>
    intro i fs rc hi hm h
    refine ps_if (d := 4 ≤ i) (nI_leI (a := 4) (by omega) (by omega)) (fun q => hp fs rc (fun t ht => h t (by omega))) (fun q => ?_)
    have ei : (nI i).toNatClampNeg = i := nI_clamp (by omega)
    have ii : vp_in (nI i) 4 := vp_in_nI (by omega) (by decide)
    refine And.intro ii (nm_r (e' := upd fs i 0) (by rw [ei]) (And.intro ii (nm_r (e' := upd rc i 0) (by rw [ei]) (nm_r (nI_1 i) (ih (i + 1) _ _ (by omega) (by omega) (fun t ht => ?_))))))
    by_cases e : t = i
    · rw [e]; exact ⟨pk_us, pk_us⟩
    · rw [pk_un e, pk_un e]; exact h t (by omega)
theorem px_et {tT wS rL sg rC gR hd lW lv oN ur cR : Int32} {K V N nx ws fo pr rs fs rc mh : Nat → Int32} {post : SX → Prop} (hp : ∀ fs rc : Nat → Int32, (∀ t, t < 4 → fs t = 0 ∧ rc t = 0) → post (tT, wS, rL, sg, rC, gR, hd, lW, lv, oN, ur, cR, K, V, N, nx, ws, fo, pr, rs, fs, rc, mh)) : wpX_emptyTapes post (tT, wS, rL, sg, rC, gR, hd, lW, lv, oN, ur, cR, K, V, N, nx, ws, fo, pr, rs, fs, rc, mh) :=
  Exists.intro 5 (px_etl hp 5 0 fs rc (by omega) (by omega) (fun t h => absurd h (Nat.not_lt_zero t)))
theorem px_ap {tT wS rL sg rC gR hd lW lv oN ur cR : Int32} {K V N nx ws fo pr rs fs rc mh : Nat → Int32} {post : SX → Prop} {t f r : Nat} {g : Int32} (ht : t < 4) (hf : fs t = nI f) (hr : rc t = nI r) (f32 : f < 32) (r32 : r < 1000)
    (hp : post (tT, wS, rL, sg, rC, gR, hd, lW, lv, oN, ur, cR, K, V, N, nx, ws, fo, pr, upd rs (t * 32 + (f + r) % 32) g, fs, upd rc t (nI (r + 1)), mh)) : wpX_appendRun post (tT, wS, rL, sg, rC, gR, hd, lW, lv, oN, ur, cR, K, V, N, nx, ws, fo, pr, rs, fs, rc, mh) (nI t) g := by
  have et : (nI t).toNatClampNeg = t := nI_clamp (by omega)
  have it : vp_in (nI t) 4 := vp_in_nI ht (by decide)
  have e3 : (fs (nI t).toNatClampNeg + rc (nI t).toNatClampNeg) - (fs (nI t).toNatClampNeg + rc (nI t).toNatClampNeg) / 32 * 32 = nI ((f + r) % 32) := by
    rw [et, hf, hr, nI_add]
    exact pk_rem (d := 32) (by omega) (by omega) (by omega)
  have ex : nI t * 32 + nI ((f + r) % 32) = nI (t * 32 + (f + r) % 32) := by
    have h1 : nI t * 32 = nI (t * 32) := pk_mul t 32
    rw [h1, nI_add]
  refine And.intro it (And.intro it (And.intro (by decide) (nm_r e3 (And.intro (by rw [ex]; exact vp_in_nI (by omega) (by decide)) (nm_r (e' := upd rs (t * 32 + (f + r) % 32) g) (by rw [ex, nI_clamp (by omega)]) (And.intro it (And.intro it (nm_r (e' := upd rc t (nI (r + 1))) (by rw [et, hr, nI_1]) hp))))))))
/-- while the runs are spread: round q, tape t; D dummies are left, w runs written -/
def ps_DI (T c R n q t D w : Nat) (L : Nat → Nat → Prop) (rn sl fsN rcN : Nat → Nat) (rs rc : Nat → Int32) : Prop :=
  ps_Dist c L rn w sl fsN rcN rs ∧ (∀ i, i < 4 → rc i = nI (rcN i)) ∧ (∀ i, i + 1 < T → i < t → rcN i = min (ps_pa T n i) (q + 1)) ∧ (∀ i, i + 1 < T → t ≤ i → rcN i = min (ps_pa T n i) q) ∧ (∀ i, T ≤ i + 1 → i < 4 → rcN i = 0)
    ∧ D + R + (rcN 0 + rcN 1 + rcN 2) = ps_tt T n + w ∧ (D = 0 ∨ w = 0) ∧ w ≤ R
theorem ps_DI_lt {T c R n q t D w : Nat} {L : Nat → Nat → Prop} {rn sl fsN rcN : Nat → Nat} {rs rc : Nat → Int32} (hT : ps_T34 T) (h : ps_DI T c R n q t D w L rn sl fsN rcN rs rc) (ht : t + 1 < T) (hq : q < ps_pa T n t) :
    rcN 0 + rcN 1 + rcN 2 < ps_tt T n ∧ rcN t = q := by
  obtain ⟨_, _, a, b, z, _⟩ := h
  have t4 := ps_T4 hT
  have bt := b t ht (Nat.le_refl t)
  have up : ∀ i, i < 3 → rcN i ≤ ps_pa T n i := by
    intro i hi
    by_cases e : i + 1 < T
    · by_cases l : i < t
      · rw [a i e l]; omega
      · rw [b i e (by omega)]; omega
    · rw [z i (by omega) (by omega)]; omega
  have u0 := up 0 (by omega)
  have u1 := up 1 (by omega)
  have u2 := up 2 (by omega)
  have e : rcN t = q := by omega
  refine ⟨?_, e⟩
  unfold ps_tt
  have c3 : t = 0 ∨ t = 1 ∨ t = 2 := by omega
  rcases c3 with c3 | c3 | c3 <;> subst c3 <;> omega
theorem px_d27 {wS rL sg rC gR hd lW lv oN ur cR : Int32} {K V N nx ws fo pr fs mh : Nat → Int32} {post : SX → Prop} {J : Int32 → Int32 → Int32 → Int32 → Int32 → Int32 → Int32 → Int32 → Int32 → Int32 → Int32 → Int32 → Int32 → Int32 → Int32 → (Nat → Int32) → (Nat → Int32) → (Nat → Int32) → (Nat → Int32) → (Nat → Int32) → (Nat → Int32) → (Nat → Int32) → (Nat → Int32) → (Nat → Int32) → (Nat → Int32) → (Nat → Int32) → Prop}
    {T c R n q : Nat} {rn fsN : Nat → Nat} (hT : ps_T34 T) (hn : n + T ≤ 10) (hR : R ≤ 32) (hq : q < 32) (hpr : ∀ j, j < 4 → pr j = nI (ps_pa T n j)) (hfs : ∀ t, t < 4 → fs t = 0) (hz : ∀ t, t < 4 → fsN t = 0)
    (h1 : ∀ x, x < c → 1 ≤ rn x) (hfo : ∀ r, 1 ≤ r → r ≤ R → ps_mi (ps_L K) (fun x => x < c ∧ rn x = r) (fo (r - 1)))
    (hJ : ∀ (D w : Nat) (sl rcN : Nat → Nat) (rs rc : Nat → Int32), D ≤ 72 → ps_DI T c R n (q + 1) 0 D w (ps_L K) rn sl fsN rcN rs rc → J (nI D) (nI w) (nI (q + 1)) (nI T) wS rL sg rC gR hd lW lv oN ur cR K V N nx ws fo pr rs fs rc mh) :
    ∀ (m t D w : Nat) (sl rcN : Nat → Nat) (rs rc : Nat → Int32), t + 1 ≤ T → T - 1 - t < m → D ≤ 72 → ps_DI T c R n q t D w (ps_L K) rn sl fsN rcN rs rc → wX_distributeRuns_27 post J (nI q) m (nI D) (nI w) (nI t) (nI T) wS rL sg rC gR hd lW lv oN ur cR K V N nx ws fo pr rs fs rc mh := by
  have t4 := ps_T4 hT
  have e1 : nI T - 1 = nI (T - 1) := ps_p1 (by omega)
  intro m
  induction m with
  | zero => intro t D w sl rcN rs rc _ h; omega
  | succ m ih =>
    intro t D w sl rcN rs rc ht hm hD I
    refine ps_if (d := T - 1 ≤ t) (by rw [e1]; exact nI_leI (by omega) (by omega)) (fun z => nm_r (nI_1 q) (hJ D w sl rcN rs rc hD ?_)) (fun z => ?_)
    · obtain ⟨i1, i2, i3, i4, i5, i6, i7, i8⟩ := I
      exact ⟨i1, i2, fun i _ hi => absurd hi (Nat.not_lt_zero i), fun i hi _ => i3 i hi (by omega), i5, i6, i7, i8⟩
    · have et : (nI t).toNatClampNeg = t := nI_clamp (by omega)
      have pb := ps_pab hT hn t
      refine And.intro (vp_in_nI (by omega) (by decide)) (ps_if (d := q < ps_pa T n t) (by rw [et, hpr t (by omega)]; exact nI_ltI (by omega) (by omega)) (fun y => ?_) (fun y => ?_))
      · have lt := ps_DI_lt hT I (by omega) y
        obtain ⟨i1, i2, i3, i4, i5, i6, i7, i8⟩ := I
        have r32 : rcN t < 32 := by omega
        have et2 : t * 32 + (0 + rcN t) % 32 = t * 32 + rcN t := by omega
        refine ps_if (d := D ≤ 0) (nI_leI (b := 0) (by omega) (by omega)) (fun d0 => ?_) (fun d0 => ?_)
        · have D0 : D = 0 := by omega
          have wR : w < R := by omega
          have ew : (nI w).toNatClampNeg = w := nI_clamp (by omega)
          refine And.intro (vp_in_nI (by omega) (by decide)) (px_ap (f := 0) (r := rcN t) (by omega) (hfs t (by omega)) (i2 t (by omega)) (by omega) (by omega) ?_)
          refine nm_r (nI_1 w) (nm_r (nI_1 t) ?_)
          rw [ew, et2]
          refine ih (t + 1) D (w + 1) (ps_un sl (w + 1) (t * 32 + rcN t)) (ps_un rcN t (rcN t + 1)) _ _ (by omega) (by omega) hD ⟨ps_DistR i1 h1 hz (by omega) r32 (hfo (w + 1) (by omega) (by omega)), ?_, ?_, ?_, ?_, ?_, Or.inl D0, by omega⟩
          · intro i hi
            by_cases e : i = t
            · rw [e, pk_us, ps_us]
            · rw [pk_un e, ps_uo e]; exact i2 i hi
          · intro i hi hi2
            by_cases e : i = t
            · rw [e, ps_us]; omega
            · rw [ps_uo e]; exact i3 i hi (by omega)
          · intro i hi hi2
            rw [ps_uo (by omega)]; exact i4 i hi (by omega)
          · intro i hi hi2
            rw [ps_uo (by omega)]; exact i5 i hi hi2
          · have c3 : t = 0 ∨ t = 1 ∨ t = 2 := by omega
            rcases c3 with c3 | c3 | c3
            · subst c3; rw [ps_us, ps_uo (by omega), ps_uo (by omega)]; omega
            · subst c3; rw [ps_us, ps_uo (by omega), ps_uo (by omega)]; omega
            · subst c3; rw [ps_us, ps_uo (by omega), ps_uo (by omega)]; omega
        · have w0 : w = 0 := by omega
          obtain ⟨D', rfl⟩ : ∃ D', D = D' + 1 := ⟨D - 1, by omega⟩
          refine px_ap (f := 0) (r := rcN t) (by omega) (hfs t (by omega)) (i2 t (by omega)) (by omega) (by omega) ?_
          refine nm_r (pk_m1 D') (nm_r (nI_1 t) ?_)
          rw [et2]
          refine ih (t + 1) D' w sl (ps_un rcN t (rcN t + 1)) _ _ (by omega) (by omega) (by omega) ⟨ps_DistD i1 h1 hz (by omega) r32, ?_, ?_, ?_, ?_, ?_, Or.inr w0, i8⟩
          · intro i hi
            by_cases e : i = t
            · rw [e, pk_us, ps_us]
            · rw [pk_un e, ps_uo e]; exact i2 i hi
          · intro i hi hi2
            by_cases e : i = t
            · rw [e, ps_us]; omega
            · rw [ps_uo e]; exact i3 i hi (by omega)
          · intro i hi hi2
            rw [ps_uo (by omega)]; exact i4 i hi (by omega)
          · intro i hi hi2
            rw [ps_uo (by omega)]; exact i5 i hi hi2
          · have c3 : t = 0 ∨ t = 1 ∨ t = 2 := by omega
            rcases c3 with c3 | c3 | c3
            · subst c3; rw [ps_us, ps_uo (by omega), ps_uo (by omega)]; omega
            · subst c3; rw [ps_us, ps_uo (by omega), ps_uo (by omega)]; omega
            · subst c3; rw [ps_us, ps_uo (by omega), ps_uo (by omega)]; omega
      · obtain ⟨i1, i2, i3, i4, i5, i6, i7, i8⟩ := I
        refine nm_r (nI_1 t) (ih (t + 1) D w sl rcN rs rc (by omega) (by omega) hD ⟨i1, i2, ?_, fun i a b => i4 i a (by omega), i5, i6, i7, i8⟩)
        intro i hi hi2
        by_cases e : i = t
        · rw [e]
          have := i4 t (by omega) (Nat.le_refl t)
          omega
        · exact i3 i hi (by omega)
theorem px_d18 {wS rL sg rC gR hd lW lv oN ur cR : Int32} {K V N nx ws fo pr fs mh : Nat → Int32} {post : SX → Prop} {T c R n : Nat} {rn fsN : Nat → Nat} (hT : ps_T34 T) (hn : n + T ≤ 10) (hR : R ≤ 32) (hpr : ∀ j, j < 4 → pr j = nI (ps_pa T n j)) (hfs : ∀ t, t < 4 → fs t = 0) (hz : ∀ t, t < 4 → fsN t = 0)
    (h1 : ∀ x, x < c → 1 ≤ rn x) (hfo : ∀ r, 1 ≤ r → r ≤ R → ps_mi (ps_L K) (fun x => x < c ∧ rn x = r) (fo (r - 1)))
    (hp : ∀ (sl rcN : Nat → Nat) (rs rc : Nat → Int32), ps_Dist c (ps_L K) rn R sl fsN rcN rs → (∀ t, t < 4 → rc t = nI (rcN t)) → (∀ t, t < 4 → rcN t = ps_pa T n t) → post (nI T, wS, rL, sg, rC, gR, hd, lW, lv, oN, ur, cR, K, V, N, nx, ws, fo, pr, rs, fs, rc, mh)) :
    ∀ (m q D w : Nat) (sl rcN : Nat → Nat) (rs rc : Nat → Int32), q ≤ 32 → 32 - q < m → D ≤ 72 → ps_DI T c R n q 0 D w (ps_L K) rn sl fsN rcN rs rc → wX_distributeRuns_18 post m (nI D) (nI w) (nI q) (nI T) wS rL sg rC gR hd lW lv oN ur cR K V N nx ws fo pr rs fs rc mh := by
  have t4 := ps_T4 hT
  intro m
  induction m with
  | zero => intro q D w sl rcN rs rc _ h; omega
  | succ m ih =>
    intro q D w sl rcN rs rc hq hm hD I
    refine ps_if (d := 32 ≤ q) (nI_leI (a := 32) (by omega) (by omega)) (fun z => ?_) (fun z => ?_)
    · obtain ⟨i1, i2, i3, i4, i5, i6, i7, i8⟩ := I
      have er : ∀ t, t < 4 → rcN t = ps_pa T n t := by
        intro t ht
        by_cases e : t + 1 < T
        · have := i4 t e (Nat.zero_le t)
          have := ps_pab hT hn t
          omega
        · rw [i5 t (by omega) ht, ps_pa_0 hT (by omega)]
      have w1 : w = R := by
        have r0 := er 0 (by omega)
        have r1 := er 1 (by omega)
        have r2 := er 2 (by omega)
        unfold ps_tt at i6
        omega
      rw [w1] at i1
      exact hp sl rcN rs rc i1 i2 er
    · exact Exists.intro T (px_d27 hT hn hR (by omega) hpr hfs hz h1 hfo (fun D w sl rcN rs rc hD I => ih (q + 1) D w sl rcN rs rc (by omega) (by omega) hD I) T 0 D w sl rcN rs rc (by omega) (by omega) hD I)
theorem px_di {wS rL sg rC hd lW lv oN ur cR : Int32} {K V N nx ws fo pr rs fs rc mh : Nat → Int32} {post : SX → Prop} {T c R n : Nat} {rn : Nat → Nat} (hT : ps_T34 T) (hn : n + T ≤ 10) (hR : R ≤ 32) (hRt : R ≤ ps_tt T n) (hpr : ∀ j, j < 4 → pr j = nI (ps_pa T n j))
    (h1 : ∀ x, x < c → 1 ≤ rn x) (hfo : ∀ r, 1 ≤ r → r ≤ R → ps_mi (ps_L K) (fun x => x < c ∧ rn x = r) (fo (r - 1)))
    (hp : ∀ (sl rcN : Nat → Nat) (rs fs rc : Nat → Int32), (∀ t, t < 4 → fs t = 0) → ps_Dist c (ps_L K) rn R sl (fun _ => 0) rcN rs → (∀ t, t < 4 → rc t = nI (rcN t)) → (∀ t, t < 4 → rcN t = ps_pa T n t) → post (nI T, wS, rL, sg, rC, nI R, hd, lW, lv, oN, ur, cR, K, V, N, nx, ws, fo, pr, rs, fs, rc, mh)) :
    wpX_distributeRuns post (nI T, wS, rL, sg, rC, nI R, hd, lW, lv, oN, ur, cR, K, V, N, nx, ws, fo, pr, rs, fs, rc, mh) := by
  have t4 := ps_T4 hT
  have tb := ps_ttb hT hn
  unfold wpX_distributeRuns
  refine px_et (fun fs' rc' h0 => ?_)
  refine px_pt hT hpr (nm_r (pk_sub hRt) ?_)
  refine Exists.intro 33 (px_d18 (fsN := fun _ => 0) hT hn hR hpr (fun t ht => (h0 t ht).1) (fun _ _ => rfl) h1 hfo (fun sl rcN rs rc a b c => hp sl rcN rs fs' rc (fun t ht => (h0 t ht).1) a b c) 33 0 (ps_tt T n - R) 0 (fun _ => 0) (fun _ => 0) rs rc' (by omega) (by omega) (by omega) ?_)
  refine ⟨ps_Dist0 _ _ _ _ _ _ _ (fun _ _ => rfl), fun i hi => (h0 i hi).2, fun i _ hi => absurd hi (Nat.not_lt_zero i), fun i _ _ => ?_, fun _ _ _ => rfl, ?_, Or.inr rfl, by omega⟩
  · show 0 = min _ 0
    omega
  · show ps_tt T n - R + R + (0 + 0 + 0) = ps_tt T n + 0
    omega
end
section
/-! finish, the reference's side, and the case. -/
theorem ps_tt1 {T n : Nat} (hT : ps_T34 T) (h1 : 1 ≤ n) (hn : n + T ≤ 10) : 1 ≤ ps_pa T n (T - 2) ∧ (∀ j, j + 1 < T → ps_pa T n (T - 2) ≤ ps_pa T n j) := by
  rcases hT with e | e
  · subst e
    have t := ps_tab3 n (by omega)
    refine ⟨by show 1 ≤ ps_pa 3 n 1; omega, fun j hj => ?_⟩
    show ps_pa 3 n 1 ≤ ps_pa 3 n j
    have c : j = 0 ∨ j = 1 := by omega
    rcases c with c | c <;> subst c <;> omega
  · subst e
    have t := ps_tab4 n (by omega)
    refine ⟨by show 1 ≤ ps_pa 4 n 2; omega, fun j hj => ?_⟩
    show ps_pa 4 n 2 ≤ ps_pa 4 n j
    have c : j = 0 ∨ j = 1 ∨ j = 2 := by omega
    rcases c with c | c | c <;> subst c <;> omega
theorem py_176 {yW yA yg yc yo yL : Int32} {K V N ins row : Nat → Int32} {post : Int32 → SY → Prop} {T n : Nat} (hT : ps_T34 T) (hn : n + T ≤ 10) (hrow : ∀ j, 1 ≤ j → j < 5 → row j = nI (ps_pa T n (j - 1)))
    (h0 : ∀ hl : Nat → Int32, (∀ t, t < T → hl t = nI (ps_pa T n t)) → n = 0 → post 5 (nI T, yW, yA, 2, yc, nI n, 0, -1, K, V, N, ins, row, hl))
    (h1 : ∀ hl : Nat → Int32, (∀ t, t < T → hl t = nI (ps_pa T n t)) → ¬ n = 0 → post 0 (nI T, yW, yA, 1, yc, nI n, nI (T - 1), -1, K, V, N, ins, row, hl)) :
    ∀ m i (hl : Nat → Int32), 1 ≤ i → i ≤ T → T - i < m → (∀ t, t + 1 < i → hl t = nI (ps_pa T n t)) → wY_finish_176 post (nI T) yW yA yg yc (nI n) yo yL m (nI i) K V N ins row hl := by
  have t4 := ps_T4 hT
  have e1 : nI T - 1 = nI (T - 1) := ps_p1 (by omega)
  intro m
  induction m with
  | zero => intro i hl _ _ h; omega
  | succ m ih =>
    intro i hl i1 iT hm hh
    refine ps_if (d := T ≤ i) (nI_leI (by omega) (by omega)) (fun q => ?_) (fun q => ?_)
    · have hl' : ∀ t, t < T → upd hl (T - 1) 0 t = nI (ps_pa T n t) := by
        intro t ht
        by_cases e : t = T - 1
        · rw [e, pk_us, ps_pa_0 hT (by omega)]; rfl
        · rw [pk_un e]; exact hh t (by omega)
      refine And.intro (by rw [e1]; exact vp_in_nI (by omega) (by decide)) (nm_r (e' := upd hl (T - 1) 0) (by rw [e1, nI_clamp (by omega)]) ?_)
      have en : (nI n = 0 ↔ n = 0) := nI_eq (b := 0) (by omega) (by omega)
      refine ps_if en (fun z => ?_) (fun z => ?_)
      · have zz : nI n = 0 := en.2 z
        exact br_t zz (br_t zz (h0 _ hl' z))
      · have zz : ¬ nI n = 0 := fun y => z (en.1 y)
        refine br_f zz ?_
        rw [e1]
        exact br_f zz (h1 _ hl' z)
    · have ei : (nI i).toNatClampNeg = i := nI_clamp (by omega)
      have ep : nI i - 1 = nI (i - 1) := ps_p1 i1
      refine And.intro (vp_in_nI (by omega) (by decide)) (And.intro (by rw [ep]; exact vp_in_nI (by omega) (by decide)) (nm_r (e' := upd hl (i - 1) (nI (ps_pa T n (i - 1)))) (by rw [ep, nI_clamp (by omega), ei, hrow i i1 (by omega)]) (nm_r (nI_1 i) (ih (i + 1) _ (by omega) (by omega) (by omega) (fun t ht => ?_)))))
      by_cases e : t = i - 1
      · rw [e, pk_us]
      · rw [pk_un e]; exact hh t (by omega)
theorem py_124 {yW yA yg yc yo yL : Int32} {K V N ins hl : Nat → Int32} {post : Int32 → SY → Prop} {J : Int32 → Int32 → (Nat → Int32) → (Nat → Int32) → (Nat → Int32) → (Nat → Int32) → (Nat → Int32) → (Nat → Int32) → Prop} {x1 : Int32} {T n i0 : Nat} (hT : ps_T34 T)
    (hJ : ∀ row : Nat → Int32, (∀ j, 1 ≤ j → j < 5 → row j = nI (ps_pa T (n + 1) (j - 1))) → J (nI (i0 + 1)) (nI (n + 1)) K V N ins row hl) :
    ∀ m i (row : Nat → Int32), 1 ≤ i → i ≤ T → T - i < m → (∀ j, 1 ≤ j → j < i → row j = nI (ps_pa T (n + 1) (j - 1))) → (∀ j, i ≤ j → j < 5 → row j = nI (ps_pa T n (j - 1))) → wY_finish_124 post J x1 (nI i0) (nI (ps_pa T n 0)) (nI T) yW yA yg yc (nI n) yo yL m (nI i) K V N ins row hl := by
  have t4 := ps_T4 hT
  intro m
  induction m with
  | zero => intro i row _ _ h; omega
  | succ m ih =>
    intro i row i1 iT hm h0 h1
    refine ps_if (d := T ≤ i) (nI_leI (by omega) (by omega)) (fun q => ?_) (fun q => ?_)
    · refine nm_r (nI_1 n) (nm_r (nI_1 i0) (hJ row (fun j j1 j5 => ?_)))
      by_cases e : j < i
      · exact h0 j j1 e
      · rw [h1 j (by omega) j5, ps_pa_0 hT (by omega), ps_pa_0 hT (by omega)]
    · have ei : (nI i).toNatClampNeg = i := nI_clamp (by omega)
      have en : (nI i + 1).toNatClampNeg = i + 1 := by rw [nI_1]; exact nI_clamp (by omega)
      have v : nI (ps_pa T n 0) + row (i + 1) = nI (ps_pa T (n + 1) (i - 1)) := by
        rw [h1 (i + 1) (by omega) (by omega), nI_add, ps_pa_s, if_pos (by omega)]
        have : i + 1 - 1 = i - 1 + 1 := by omega
        rw [this]
      refine And.intro (by rw [nI_1]; exact vp_in_nI (by omega) (by decide)) (And.intro (vp_in_nI (by omega) (by decide)) (nm_r (e' := upd row i (nI (ps_pa T (n + 1) (i - 1)))) (by rw [en, ei, v]) (nm_r (nI_1 i) (ih (i + 1) _ (by omega) (by omega) (by omega) (fun j j1 ji => ?_) (fun j ji j5 => ?_)))))
      · by_cases e : j = i
        · rw [e, pk_us]
        · rw [pk_un e]; exact h0 j j1 (by omega)
      · rw [pk_un (by omega)]; exact h1 j (by omega) j5
theorem py_80 {yW yA yg yc yo yL : Int32} {K V N ins row hl : Nat → Int32} {post : Int32 → SY → Prop} {J : Int32 → Int32 → (Nat → Int32) → (Nat → Int32) → (Nat → Int32) → (Nat → Int32) → (Nat → Int32) → (Nat → Int32) → Prop} {x2 : Int32} {T n R : Nat} (hT : ps_T34 T) (hn : n + T ≤ 10) (hR : R ≤ 32) (hrow : ∀ j, 1 ≤ j → j < 5 → row j = nI (ps_pa T n (j - 1)))
    (hl1 : ps_tt T n < R → ∃ n124 : Nat, wY_finish_124 post J (nI R) x2 (nI (ps_pa T n 0)) (nI T) yW yA yg yc (nI n) yo yL n124 1 K V N ins row hl)
    (hl2 : ¬ ps_tt T n < R → ∃ n176 : Nat, wY_finish_176 post (nI T) yW yA yg yc (nI n) yo yL n176 1 K V N ins row hl) :
    ∀ m i, 1 ≤ i → i ≤ T → T - i < m → wY_finish_80 post J (nI R) x2 (nI T) yW yA yg yc (nI n) yo yL K V N ins row hl m (nI (ps_sm T n (i - 1))) (nI i) := by
  have t4 := ps_T4 hT
  have tb := ps_ttb hT hn
  intro m
  induction m with
  | zero => intro i _ _ h; omega
  | succ m ih =>
    intro i i1 iT hm
    refine ps_if (d := T ≤ i) (nI_leI (by omega) (by omega)) (fun q => ?_) (fun q => ?_)
    · have e : i = T := by omega
      rw [e, ps_sm_tt hT]
      refine ps_if (d := ps_tt T n < R) (nI_ltI (by omega) (by omega)) (fun z => ?_) hl2
      exact nm_r (hrow 1 (by omega) (by omega)) (hl1 z)
    · have ei : (nI i).toNatClampNeg = i := nI_clamp (by omega)
      have s := ih (i + 1) (by omega) (by omega) (by omega)
      have ee : i + 1 - 1 = i - 1 + 1 := by omega
      rw [ee] at s
      refine And.intro (vp_in_nI (by omega) (by decide)) (nm_r (e' := nI (ps_sm T n (i - 1 + 1))) (by rw [ei, hrow i i1 (by omega), nI_add]; rfl) (nm_r (nI_1 i) s))
theorem py_69 {yW yA yg yc yo yL : Int32} {K V N ins : Nat → Int32} {post : Int32 → SY → Prop} {T n R : Nat} (hT : ps_T34 T) (hn : n + T ≤ 10) (hR : R ≤ 32) (hR1 : R ≤ ps_tt T n) (hR2 : ∀ m, m < n → ps_tt T m < R) (hl : Nat → Int32)
    (h0 : ∀ row hl : Nat → Int32, (∀ t, t < T → hl t = nI (ps_pa T n t)) → n = 0 → post 5 (nI T, yW, yA, 2, yc, nI n, 0, -1, K, V, N, ins, row, hl))
    (h1 : ∀ row hl : Nat → Int32, (∀ t, t < T → hl t = nI (ps_pa T n t)) → ¬ n = 0 → post 0 (nI T, yW, yA, 1, yc, nI n, nI (T - 1), -1, K, V, N, ins, row, hl)) :
    ∀ m i (row : Nat → Int32), i ≤ n → n - i < m → (∀ j, 1 ≤ j → j < 5 → row j = nI (ps_pa T i (j - 1))) → wY_finish_69 post (nI R) (nI T) yW yA yg yc yo yL m (nI i) (nI i) K V N ins row hl := by
  have t4 := ps_T4 hT
  intro m
  induction m with
  | zero => intro i row _ h; omega
  | succ m ih =>
    intro i row hi hm hrow
    refine br_f (nI_ge (b := 8) (by omega) (by decide)) (Exists.intro T (py_80 hT (by omega) hR hrow (fun z => ?_) (fun z => ?_) T 1 (by omega) (by omega) (by omega)))
    · have il : i < n := by
        by_cases e : i = n
        · rw [e] at z; omega
        · omega
      exact Exists.intro T (py_124 hT (fun row' h' => ih (i + 1) row' (by omega) (by omega) h') T 1 row (by omega) (by omega) (by omega) (fun j a b => by omega) (fun j a b => hrow j a b))
    · have e : i = n := by
        by_cases e : i = n
        · exact e
        · have := hR2 i (by omega); omega
      subst e
      exact Exists.intro T (py_176 hT hn hrow (fun hl' a b => h0 row hl' a b) (fun hl' a b => h1 row hl' a b) T 1 hl (by omega) (by omega) (by omega) (fun t ht => by omega))
theorem py_32 {yW yA yg yl yo yL : Int32} {K V N ins hl : Nat → Int32} {post : Int32 → SY → Prop} {T c n R : Nat} {rn : Nat → Nat} (hT : ps_T34 T) (hn : n + T ≤ 10) (hR : R ≤ 32) (hR1 : R ≤ ps_tt T n) (hR2 : ∀ m, m < n → ps_tt T m < R) (hc : c ≤ 64) (hN : ∀ x, x < c → N x = nI (rn x)) (hRn : ps_Rn c R rn)
    (h0 : ∀ row hl : Nat → Int32, (∀ t, t < T → hl t = nI (ps_pa T n t)) → n = 0 → post 5 (nI T, yW, yA, 2, nI c, nI n, 0, -1, K, V, N, ins, row, hl))
    (h1 : ∀ row hl : Nat → Int32, (∀ t, t < T → hl t = nI (ps_pa T n t)) → ¬ n = 0 → post 0 (nI T, yW, yA, 1, nI c, nI n, nI (T - 1), -1, K, V, N, ins, row, hl)) :
    ∀ m i (row : Nat → Int32), i ≤ 5 → 5 - i < m → (∀ j, j < i → row j = 0) → wY_finish_32 post (nI T) yW yA yg (nI c) yl yo yL m (nI i) K V N ins row hl := by
  intro m
  induction m with
  | zero => intro i row _ h; omega
  | succ m ih =>
    intro i row hi hm hz
    refine ps_if (d := 5 ≤ i) (nI_leI (a := 5) (by omega) (by omega)) (fun q => ?_) (fun q => ?_)
    · refine nm_e (py_rn hc hN hRn (Exists.intro (n + 1) (py_69 hT hn hR hR1 hR2 hl h0 h1 (n + 1) 0 (upd row 1 1) (by omega) (by omega) (fun j j1 j5 => ?_))))
      by_cases e : j = 1
      · rw [e, pk_us]; rfl
      · rw [pk_un e, hz j (by omega)]
        have : ps_pa T 0 (j - 1) = 0 := if_neg (by omega)
        rw [this]; rfl
    · refine And.intro (vp_in_nI (by omega) (by decide)) (nm_r (e' := upd row i 0) (by rw [nI_clamp (by omega)]) (nm_r (nI_1 i) (ih (i + 1) _ (by omega) (by omega) (fun j hj => ?_))))
      by_cases e : j = i
      · rw [e, pk_us]
      · rw [pk_un e]; exact hz j (by omega)
theorem py_11 {yW yA yg yl yo yL : Int32} {K V N row hl : Nat → Int32} {post : Int32 → SY → Prop} {T c n R : Nat} {rn : Nat → Nat} (hT : ps_T34 T) (hn : n + T ≤ 10) (hR : R ≤ 32) (hR1 : R ≤ ps_tt T n) (hR2 : ∀ m, m < n → ps_tt T m < R) (hc : c ≤ 64) (hN : ∀ x, x < c → N x = nI (rn x)) (hRn : ps_Rn c R rn)
    (h0 : ∀ ins row hl : Nat → Int32, (∀ x, x < 64 → ins x = 0) → (∀ t, t < T → hl t = nI (ps_pa T n t)) → n = 0 → post 5 (nI T, yW, yA, 2, nI c, nI n, 0, -1, K, V, N, ins, row, hl))
    (h1 : ∀ ins row hl : Nat → Int32, (∀ x, x < 64 → ins x = 0) → (∀ t, t < T → hl t = nI (ps_pa T n t)) → ¬ n = 0 → post 0 (nI T, yW, yA, 1, nI c, nI n, nI (T - 1), -1, K, V, N, ins, row, hl)) :
    ∀ m i (ins : Nat → Int32), i ≤ 64 → 64 - i < m → (∀ x, x < i → ins x = 0) → wY_finish_11 post (nI T) yW yA yg (nI c) yl yo yL m (nI i) K V N ins row hl := by
  intro m
  induction m with
  | zero => intro i ins _ h; omega
  | succ m ih =>
    intro i ins hi hm hz
    refine ps_if (d := 64 ≤ i) (nI_leI (a := 64) (by omega) (by omega)) (fun q => ?_) (fun q => ?_)
    · have z64 : ∀ x, x < 64 → ins x = 0 := fun x hx => hz x (by omega)
      exact Exists.intro 6 (py_32 hT hn hR hR1 hR2 hc hN hRn (fun row hl a b => h0 ins row hl z64 a b) (fun row hl a b => h1 ins row hl z64 a b) 6 0 row (by omega) (by omega) (fun j hj => absurd hj (Nat.not_lt_zero j)))
    · refine And.intro (vp_in_nI (by omega) (by decide)) (nm_r (e' := upd ins i 0) (by rw [nI_clamp (by omega), ps_vb0]) (nm_r (nI_1 i) (ih (i + 1) _ (by omega) (by omega) (fun x hx => ?_))))
      by_cases e : x = i
      · rw [e, pk_us]
      · rw [pk_un e]; exact hz x (by omega)
theorem py_fin {yW yA yl yo yL : Int32} {K V N ins row hl : Nat → Int32} {post : Int32 → SY → Prop} {T c n R : Nat} {rn : Nat → Nat} (hT : ps_T34 T) (hn : n + T ≤ 10) (hR : R ≤ 32) (hR1 : R ≤ ps_tt T n) (hR2 : ∀ m, m < n → ps_tt T m < R) (hc : c ≤ 64) (hN : ∀ x, x < c → N x = nI (rn x)) (hRn : ps_Rn c R rn)
    (h0 : ∀ ins row hl : Nat → Int32, (∀ x, x < 64 → ins x = 0) → (∀ t, t < T → hl t = nI (ps_pa T n t)) → n = 0 → post 5 (nI T, yW, yA, 2, nI c, nI n, 0, -1, K, V, N, ins, row, hl))
    (h1 : ∀ ins row hl : Nat → Int32, (∀ x, x < 64 → ins x = 0) → (∀ t, t < T → hl t = nI (ps_pa T n t)) → ¬ n = 0 → post 0 (nI T, yW, yA, 1, nI c, nI n, nI (T - 1), -1, K, V, N, ins, row, hl)) :
    wpY_finish post (nI T, yW, yA, 0, nI c, yl, yo, yL, K, V, N, ins, row, hl) :=
  br_t rfl (Exists.intro 65 (py_11 hT hn hR hR1 hR2 hc hN hRn h0 h1 65 0 ins (by omega) (by omega) (fun x h => absurd h (Nat.not_lt_zero x))))
/-! the case -/
theorem ps_FeedE {c R : Nat} {L : Nat → Nat → Prop} {rn : Nat → Nat} {wr : Nat → Prop} {nx fo : Nat → Int32} {lW : Int32} (F : ps_Feed c L rn wr nx fo lW) (al : ∀ x, x < c → wr x) (hR : ps_Rn c R rn) :
    (∀ r, 1 ≤ r → r ≤ R → ps_mi L (fun x => x < c ∧ rn x = r) (fo (r - 1))) ∧ (∀ x, x < c → ps_mi L (fun y => y < c ∧ rn y = rn x ∧ L x y) (nx x)) := by
  obtain ⟨wc, h⟩ := F
  rcases h with ⟨_, n, _⟩ | ⟨l, _, hl, hle, _, hfo, hnx⟩
  · have c0 : c = 0 := by
      by_cases e : c = 0
      · exact e
      · exact absurd (al 0 (by omega)) (n 0)
    have R0 := hR.2.1 c0
    exact ⟨fun r a b => by omega, fun x hx => by omega⟩
  · have lc := wc l hl
    have eR : rn l = R := by
      obtain ⟨x, hx, ex⟩ := hR.2.2.1 (by omega)
      have a := (hR.1 l lc).2
      rcases hle x (al x hx) with q | q
      · rw [← q]; exact ex
      · have := ps_R_le q; omega
    refine ⟨fun r a b => ps_mi_c (fun y => ⟨fun z => ⟨wc y z.1, z.2⟩, fun z => ⟨al y z.1, z.2⟩⟩) (hfo r a (by omega)), fun x hx => ps_mi_c (fun y => ⟨fun z => ⟨wc y z.1, z.2⟩, fun z => ⟨al y z.1, z.2⟩⟩) (hnx x (al x hx))⟩
/-- one live slot alone: the whole is sorted -/
theorem ps_toS {c s0 : Nat} {L : Nat → Nat → Prop} {own : Nat → Nat} {live : Nat → Prop} {nx rs : Nat → Int32} (O : ps_Own c L own live nx rs) (h0 : live s0) (h1 : ∀ s, live s → s = s0) :
    ps_mi L (fun x => x < c) (rs s0) ∧ (∀ x, x < c → ps_mi L (fun y => y < c ∧ L x y) (nx x)) := by
  obtain ⟨a, m, n⟩ := O
  have eo : ∀ x, x < c → own x = s0 := fun x hx => h1 _ (a x hx)
  refine ⟨ps_mi_c (fun y => ⟨fun z => z.1, fun z => ⟨z, eo y z⟩⟩) (m s0 h0), fun x hx => ps_mi_c (fun y => ⟨fun z => ⟨z.1, z.2.2⟩, fun z => ⟨z.1, (eo y z.1).trans (eo x hx).symm, z.2⟩⟩) (n x hx)⟩
theorem px_fro {tT wS rL sg rC gR hd lW lv oN ur cR : Int32} {K V N nx ws fo pr rs fs rc mh : Nat → Int32} {post : Int32 → Prop} {f p : Nat} (hf : f < 4) (hfs : fs f = nI p) (hp32 : p < 32) (hp : post (rs (f * 32 + p))) : wpX_firstRunOn post (tT, wS, rL, sg, rC, gR, hd, lW, lv, oN, ur, cR, K, V, N, nx, ws, fo, pr, rs, fs, rc, mh) (nI f) := by
  have ef : (nI f).toNatClampNeg = f := nI_clamp (by omega)
  have ex : nI f * 32 + fs (nI f).toNatClampNeg = nI (f * 32 + p) := by
    have h1 : nI f * 32 = nI (f * 32) := pk_mul f 32
    rw [ef, hfs, h1, nI_add]
  refine And.intro (vp_in_nI hf (by decide)) (And.intro (by rw [ex]; exact vp_in_nI (by omega) (by decide)) ?_)
  rw [ex, nI_clamp (by omega)]
  exact hp
theorem px_es {tT wS rL sg rC gR hd lW lv ur cR : Int32} {K V N nx ws fo pr rs fs rc mh : Nat → Int32} {post : SX → Prop} {f p : Nat} (hf : f < 4) (hfs : fs f = nI p) (hp32 : p < 32) (hp : post (tT, wS, rL, 2, rC, gR, hd, lW, lv, nI f, rs (f * 32 + p), -1, K, V, N, nx, ws, fo, pr, rs, fs, rc, mh)) : wpX_enterSorted post (tT, wS, rL, sg, rC, gR, hd, lW, lv, nI f, ur, cR, K, V, N, nx, ws, fo, pr, rs, fs, rc, mh) := by
  unfold wpX_enterSorted wpX_goToStart
  exact px_fro hf hfs hp32 hp
theorem i_vc_finish {k : Nat} {u : SX} {v : SY} (I : i_Rel k u v) (hk : k + 3 ≤ 1539) : wpX_finish (fun r u' => wpY_finish (fun r' v' => r' = r ∧ i_Rel (k + 3) u' v') v) u := by
  have I' := I
  rcases I with I | I | I
  · obtain ⟨T, W, A, c, R, h, rn, w, wr, lW, yl, yo, K, V, N, nx, ws, fo, pr, rs, fs, rc, mh, ins, row, hl, HC, HF, rfl, rfl⟩ := I
    have hh := ps_hN HC
    have HC2 := HC
    obtain ⟨hT, w2, w8, a8, a6, ca, hN, hR⟩ := HC2
    obtain ⟨hW, _, F, Wk, hw, hi, hcn⟩ := HF
    have t4 := ps_T4 hT
    obtain ⟨n, hn, hR1, hR2⟩ := ps_lev hT hh.2.1
    refine br_t rfl ?_
    refine px_ew hh.1 (by omega) hh.2.2.2 F Wk hw (fun lW' nx' ws' fo' wr' al F' => ?_)
    have E := ps_FeedE F' al hR
    refine px_ch hT hh.2.1 hn hR1 hR2 (fun pr' hpr => ?_)
    refine px_di hT hn hh.2.1 hR1 hpr (fun x hx => (hR.1 x hx).1) E.1 (fun sl rcN rs' fs' rc' hfs D hrc hrp => ?_)
    have O := ps_DistE D hR.1 E.2
    have en : (nI n = 0 ↔ n = 0) := nI_eq (b := 0) (by omega) (by omega)
    refine ps_if en (fun n0 => ?_) (fun n0 => ?_)
    · subst n0
      refine px_es (f := 0) (p := 0) (by omega) (hfs 0 (by omega)) (by omega) ?_
      refine py_fin hT hn hh.2.1 hR1 hR2 hh.1 hN hR (fun ins' row' hl' hz hhl _ => ⟨rfl, Or.inr (Or.inr ?_)⟩) (fun ins' row' hl' hz hhl z => absurd rfl z)
      have l0 : ps_live (fun _ => 0) rcN 0 := ⟨by omega, by rw [hrp 0 (by omega)]; exact (by decide : (0 % 32 + 32 - 0) % 32 < 1)⟩
      have l1 : ∀ s, ps_live (fun _ => 0) rcN s → s = 0 := by
        intro s hs
        obtain ⟨s1, s2⟩ := hs
        rw [hrp (s / 32) (by omega)] at s2
        by_cases e : s / 32 = 0
        · rw [e] at s2
          have : ps_pa T 0 0 = 1 := rfl
          rw [this] at s2
          have e3 : (s % 32 + 32 - 0) % 32 < 1 := s2
          omega
        · have : ps_pa T 0 (s / 32) = 0 := if_neg e
          rw [this] at s2
          exact absurd s2 (Nat.not_lt_zero _)
      have S := ps_toS O l0 l1
      refine ⟨-1, T, W, A, c, R, 0, 0, rn, rs' 0, lW', K, V, N, nx', ws', fo', pr', rs', fs', rc', mh, ins', row', hl', HC, ⟨by omega, by omega, hfs 0 (by omega), fun t ht => ?_, S.1, S.2, Or.inl rfl, ?_⟩, hz, rfl, rfl⟩
      · rw [hrc t (by omega), hrp t (by omega), hhl t ht]
      · exact ps_mi_c (fun y => ⟨fun z => ⟨z, Or.inl rfl⟩, fun z => z.1⟩) S.1
    · have e1 : nI T - 1 = nI (T - 1) := ps_p1 (by omega)
      refine nm_r e1 ?_
      refine py_fin hT hn hh.2.1 hR1 hR2 hh.1 hN hR (fun ins' row' hl' hz hhl z => absurd z n0) (fun ins' row' hl' hz hhl _ => ⟨rfl, Or.inr (Or.inl ?_)⟩)
      refine ⟨ps_pa T n (T - 2), T, W, A, c, R, n, T - 1, 0, rn, fun _ => 0, rcN, fun x => sl (rn x), lW', K, V, N, nx', ws', fo', pr', rs', fs', rc', mh, ins', row', hl', HC, ⟨by omega, hn, by omega, ⟨by omega, (ps_tt1 hT (by omega) hn).1⟩, ?_, ?_, ?_, ?_, O⟩, hz, rfl, rfl⟩
      · intro t ht
        rw [hrp t (by omega)]
        by_cases e : t = T - 1
        · rw [if_pos e, e, ps_pa_0 hT (by omega)]
        · rw [if_neg e]
          have : (t + T - (T - 1) - 1) % T = t := by
            have e2 : t + T - (T - 1) - 1 = t := by omega
            rw [e2]; exact Nat.mod_eq_of_lt ht
          rw [this]; omega
      · intro t tT ht4; rw [hrp t ht4, ps_pa_0 hT (by omega)]
      · intro t ht; exact ⟨hfs t ht, by show 0 < 32; omega, hrc t ht⟩
      · intro t ht; rw [hhl t ht, hrp t (by omega)]
  · obtain ⟨e, T, W, A, c, R, n, f, d, rn, fsN, rcN, own, lW, K, V, N, nx, ws, fo, pr, rs, fs, rc, mh, ins, row, hl, HC, HM, hin, rfl, rfl⟩ := I
    exact br_f (by decide) (br_f (by decide) ⟨rfl, I'⟩)
  · obtain ⟨la, T, W, A, c, R, f, p, rn, ur, lW, K, V, N, nx, ws, fo, pr, rs, fs, rc, mh, ins, row, hl, HC, HS, hin, rfl, rfl⟩ := I
    exact br_f (by decide) (br_f (by decide) ⟨rfl, I'⟩)
end
section
/-! merging. -/
theorem ps_mi_m {L : Nat → Nat → Prop} {P : Nat → Prop} (h : ps_mi L P (-1)) (b : ∀ x, P x → x < 64) : ∀ y, ¬ P y := by
  rcases h with ⟨_, n⟩ | ⟨x, ex, p, _⟩
  · exact n
  · exact absurd ex.symm (ps_ne (by have := b x p; omega))
theorem ps_mi_p {L : Nat → Nat → Prop} {P : Nat → Prop} {h : Int32} (a : ps_mi L P h) (n : ¬ h = -1) : ∃ x, h = nI x ∧ P x ∧ ∀ y, P y → y = x ∨ L x y := by
  rcases a with ⟨e, _⟩ | h
  · exact absurd e n
  · exact h
theorem px_tk {tT wS rL sg rC gR hd lW lv oN ur cR : Int32} {K V N nx ws fo pr rs fs rc mh : Nat → Int32} {post : Int32 → SX → Prop} {t f r : Nat} (ht : t < 4) (hfs : fs t = nI f) (hrc : rc t = nI r) (f32 : f < 32) (r1 : 1 ≤ r)
    (hp : post (rs (t * 32 + f)) (tT, wS, rL, sg, rC, gR, hd, lW, lv, oN, ur, cR, K, V, N, nx, ws, fo, pr, rs, upd fs t (nI ((f + 1) % 32)), upd rc t (nI (r - 1)), mh)) : wpX_takeRun post (tT, wS, rL, sg, rC, gR, hd, lW, lv, oN, ur, cR, K, V, N, nx, ws, fo, pr, rs, fs, rc, mh) (nI t) := by
  have et : (nI t).toNatClampNeg = t := nI_clamp (by omega)
  have it : vp_in (nI t) 4 := vp_in_nI ht (by decide)
  have e3 : (fs (nI t).toNatClampNeg + 1) - (fs (nI t).toNatClampNeg + 1) / 32 * 32 = nI ((f + 1) % 32) := by
    rw [et, hfs, nI_1]
    exact pk_rem (d := 32) (by omega) (by omega) (by omega)
  unfold wpX_takeRun
  refine px_fro ht hfs f32 ?_
  refine And.intro it (And.intro (by decide) (And.intro it (nm_r (e' := upd fs t (nI ((f + 1) % 32))) (by rw [e3, et]) (And.intro it (And.intro it (nm_r (e' := upd rc t (nI (r - 1))) (by rw [et, hrc, ps_p1 r1]) hp))))))
theorem px_tll {wS rL sg rC gR hd lW lv oN ur cR : Int32} {K V N nx ws fo pr rs fs rc mh : Nat → Int32} {post : Int32 → Prop} {T : Nat} {P : Nat → Nat → Prop} (T4 : T ≤ 4) (h64 : ∀ t x, t < T → P t x → x < 64) (hm : ∀ t, t < T → ps_mi (ps_L K) (P t) (mh t))
    (h0 : (∀ t, t < T → mh t = -1) → post (-1)) (h1 : ∀ b r, b < T → mh b = nI r → P b r → (∀ t x, t < T → P t x → x = r ∨ ps_L K r x) → post (nI b)) :
    ∀ m i x, i ≤ T → T - i < m → ((x = -1 ∧ ∀ t, t < i → mh t = -1) ∨ (∃ b r, x = nI b ∧ b < i ∧ mh b = nI r ∧ P b r ∧ ∀ t y, t < i → P t y → y = r ∨ ps_L K r y)) → wX_tapeOfLeastHead_4 post (nI T) wS rL sg rC gR hd lW lv oN ur cR K V N nx ws fo pr rs fs rc mh m x (nI i) := by
  have hT := ps_L_T K
  intro m
  induction m with
  | zero => intro i x _ h; omega
  | succ m ih =>
    intro i x hi hm2 I
    refine ps_if (d := T ≤ i) (nI_leI (by omega) (by omega)) (fun q => ?_) (fun q => ?_)
    · have e : i = T := by omega
      rw [e] at I
      rcases I with ⟨ex, al⟩ | ⟨b, r, ex, hb, eb, pb, mb⟩
      · rw [ex]; exact h0 al
      · rw [ex]; exact h1 b r hb eb pb mb
    · have iT : i < T := by omega
      have ei : (nI i).toNatClampNeg = i := nI_clamp (by omega)
      have ii : vp_in (nI i) 4 := vp_in_nI (by omega) (by decide)
      refine And.intro ii (ps_if (d := mh i = -1) (by rw [ei]) (fun z => ?_) (fun z => ?_))
      · have no := ps_mi_m (z ▸ hm i iT) (fun x px => h64 i x iT px)
        refine nm_r (nI_1 i) (ih (i + 1) x (by omega) (by omega) ?_)
        rcases I with ⟨ex, al⟩ | ⟨b, r, ex, hb, eb, pb, mb⟩
        · refine Or.inl ⟨ex, fun t ht => ?_⟩
          by_cases e : t = i
          · rw [e]; exact z
          · exact al t (by omega)
        · refine Or.inr ⟨b, r, ex, by omega, eb, pb, fun t y ht py => ?_⟩
          by_cases e : t = i
          · rw [e] at py; exact absurd py (no y)
          · exact mb t y (by omega) py
      · obtain ⟨s, es, ps, ms⟩ := ps_mi_p (hm i iT) z
        have s64 := h64 i s iT ps
        rcases I with ⟨ex, al⟩ | ⟨b, r, ex, hb, eb, pb, mb⟩
        · refine br_t ex (nm_r (nI_1 i) (ih (i + 1) (nI i) (by omega) (by omega) (Or.inr ⟨i, s, rfl, by omega, es, ps, fun t y ht py => ?_⟩)))
          by_cases e : t = i
          · rw [e] at py; exact ms y py
          · exact absurd py (ps_mi_m (al t (by omega) ▸ hm t (by omega)) (fun x px => h64 t x (by omega) px) y)
        · subst ex
          have r64 := h64 b r (by omega) pb
          refine br_f (ps_ne (by omega)) (And.intro ii (And.intro (vp_in_nI (by omega) (by decide)) ?_))
          have e2 : mh (nI i).toNatClampNeg = nI s := by rw [ei]; exact es
          have e3 : mh (nI b).toNatClampNeg = nI r := by rw [nI_clamp (by omega)]; exact eb
          rw [e2, e3]
          refine px_sb s64 r64 (fun l => ?_) (fun l => ?_)
          · refine br_f (by decide) (nm_r (nI_1 i) (ih (i + 1) (nI i) (by omega) (by omega) (Or.inr ⟨i, s, rfl, by omega, es, ps, fun t y ht py => ?_⟩)))
            by_cases e : t = i
            · rw [e] at py; exact ms y py
            · rcases mb t y (by omega) py with g | g
              · rw [g]; exact Or.inr l
              · exact Or.inr (hT.2.1 _ _ _ l g)
          · refine br_t rfl (nm_r (nI_1 i) (ih (i + 1) (nI b) (by omega) (by omega) (Or.inr ⟨b, r, rfl, by omega, eb, pb, fun t y ht py => ?_⟩)))
            by_cases e : t = i
            · rw [e] at py
              by_cases sr : s = r
              · rw [← sr]; exact ms y py
              · have l2 : ps_L K r s := by
                  rcases hT.2.2 s r sr with g | g
                  · exact absurd g l
                  · exact g
                rcases ms y py with g | g
                · rw [g]; exact Or.inr l2
                · exact Or.inr (hT.2.1 _ _ _ l2 g)
            · exact mb t y (by omega) py
theorem px_tl {wS rL sg rC gR hd lW lv oN ur cR : Int32} {K V N nx ws fo pr rs fs rc mh : Nat → Int32} {post : Int32 → Prop} {T : Nat} {P : Nat → Nat → Prop} (T4 : T ≤ 4) (h64 : ∀ t x, t < T → P t x → x < 64) (hm : ∀ t, t < T → ps_mi (ps_L K) (P t) (mh t))
    (h0 : (∀ t, t < T → mh t = -1) → post (-1)) (h1 : ∀ b r, b < T → mh b = nI r → P b r → (∀ t x, t < T → P t x → x = r ∨ ps_L K r x) → post (nI b)) : wpX_tapeOfLeastHead post (nI T, wS, rL, sg, rC, gR, hd, lW, lv, oN, ur, cR, K, V, N, nx, ws, fo, pr, rs, fs, rc, mh) :=
  Exists.intro (T + 1) (px_tll T4 h64 hm h0 h1 (T + 1) 0 (-1) (by omega) (by omega) (Or.inl ⟨rfl, fun t h => absurd h (Nat.not_lt_zero t)⟩))
theorem ps_rem_n {T r : Nat} {L : Nat → Nat → Prop} {U : Nat → Nat → Prop} {x : Nat} (hr : r < 2 ^ 31) : ps_rem T L U (nI r) x ↔ (ps_Un T U x ∧ L r x) := by
  constructor
  · intro h
    refine ⟨h.1, ?_⟩
    rcases h.2 with z | ⟨l, el, l31, hl⟩
    · exact absurd z (ps_ne hr)
    · have e := ps_inj hr l31 el
      rw [e]; exact hl
  · intro h; exact ⟨h.1, Or.inr ⟨r, rfl, hr, h.2⟩⟩
theorem px_mcl {wS rL sg rC gR hd lW lv oN ur cR : Int32} {K V N ws fo pr rs fs rc : Nat → Int32} {post : Int32 → SX → Prop} {T : Nat} {U : Nat → Nat → Prop} {nx0 : Nat → Int32} (T4 : T ≤ 4) (hU : ps_Ud T U) (hn : ∀ t x, t < T → U t x → ps_mi (ps_L K) (fun y => U t y ∧ ps_L K x y) (nx0 x))
    (hp : ∀ (fi : Int32) (nx mh : Nat → Int32), ps_mi (ps_L K) (ps_Un T U) fi → (∀ x, ps_Un T U x → ps_mi (ps_L K) (fun y => ps_Un T U y ∧ ps_L K x y) (nx x)) → (∀ x, ¬ ps_Un T U x → nx x = nx0 x) → post fi (nI T, wS, rL, sg, rC, gR, hd, lW, lv, oN, ur, cR, K, V, N, nx, ws, fo, pr, rs, fs, rc, mh)) :
    ∀ (m i : Nat) (fi la : Int32) (nx mh : Nat → Int32), i ≤ 64 → 64 - i < m → i + ps_nP (ps_rem T (ps_L K) U la) 64 ≤ 64 → ps_MI T (ps_L K) U nx0 mh nx fi la → wX_mergeChains_6 post (nI T) wS rL sg rC gR hd lW lv oN ur cR m fi la (nI i) K V N nx ws fo pr rs fs rc mh := by
  have hT := ps_L_T K
  have u64 : ∀ x, ps_Un T U x → x < 64 := fun x ⟨t, ht, h⟩ => hU.1 t x ht h
  intro m
  induction m with
  | zero => intro i fi la nx mh _ h; omega
  | succ m ih =>
    intro i fi la nx mh hi hm hP I
    have fin : (∀ x, x < 64 → ¬ ps_rem T (ps_L K) U la x) → post fi (nI T, wS, rL, sg, rC, gR, hd, lW, lv, oN, ur, cR, K, V, N, nx, ws, fo, pr, rs, fs, rc, mh) := by
      intro h
      obtain ⟨a, b, c⟩ := ps_ME hT hU hn I h
      exact hp fi nx mh a b c
    refine ps_if (d := 64 ≤ i) (nI_leI (a := 64) (by omega) (by omega)) (fun q => fin (ps_nP_0 64 (by omega))) (fun q => ?_)
    have hmP : ∀ t, t < T → ps_mi (ps_L K) (fun x => U t x ∧ (la = -1 ∨ ∃ l, la = nI l ∧ l < 2 ^ 31 ∧ ps_L K l x)) (mh t) := by
      intro t ht
      rcases I with ⟨el, _, _, hm0⟩ | ⟨l, el, hl, _, hm0, _, _⟩
      · exact ps_mi_c (fun y => ⟨fun z => ⟨z, Or.inl el⟩, fun z => z.1⟩) (hm0 t ht)
      · refine ps_mi_c (fun y => ⟨fun z => ⟨z.1, Or.inr ⟨l, el, by have := u64 l hl; omega, z.2⟩⟩, fun z => ⟨z.1, ?_⟩⟩) (hm0 t ht)
        rcases z.2 with w | ⟨l', el', l31, hl'⟩
        · rw [el] at w; exact absurd w (ps_ne (by have := u64 l hl; omega))
        · have e := ps_inj (by have := u64 l hl; omega) l31 (el.symm.trans el')
          rw [e]; exact hl'
    refine px_tl T4 (fun t x ht px => hU.1 t x ht px.1) hmP (fun al => ?_) (fun b r hb eb pb mb => ?_)
    · refine br_t rfl (fin (fun x hx hr => ?_))
      obtain ⟨⟨t, ht, ux⟩, af⟩ := hr
      exact ps_mi_m (al t ht ▸ hmP t ht) (fun x px => hU.1 t x ht px.1) x ⟨ux, af⟩
    · have r64 := hU.1 b r hb pb.1
      have er : (nI r).toNatClampNeg = r := nI_clamp (by omega)
      have eb2 : (nI b).toNatClampNeg = b := nI_clamp (by omega)
      have ib : vp_in (nI b) 4 := vp_in_nI (by omega) (by decide)
      have unr : ps_Un T U r := ⟨b, hb, pb.1⟩
      have lt := ps_nP_lt (P := ps_rem T (ps_L K) U la) (Q := ps_rem T (ps_L K) U (nI r)) (r := r) (fun x hx => by
        have g := (ps_rem_n (by omega)).1 hx
        refine ⟨g.1, ?_⟩
        rcases pb.2 with w | ⟨l, el, l31, hl⟩
        · exact Or.inl w
        · exact Or.inr ⟨l, el, l31, hT.2.1 _ _ _ hl g.2⟩) ⟨unr, pb.2⟩ (fun z => hT.1 r ((ps_rem_n (by omega)).1 z).2) 64 r64
      refine br_f (ps_ne (by omega)) (And.intro ib (nm_r (e' := nI r) (by rw [eb2]; exact eb) (And.intro (vp_in_nI r64 (by decide)) (And.intro ib (nm_r (e' := upd mh b (nx r)) (by rw [eb2, er]) ?_)))))
      have I2 := I
      rcases I2 with ⟨el, ef, en, hm0⟩ | ⟨l, el, hl, hf, hm0, hd, hk⟩
      · subst el
        subst en
        refine br_t rfl (nm_r (nI_1 i) (ih (i + 1) (nI r) (nI r) nx (upd mh b (nx r)) (by omega) (by omega) (by omega) (ps_M1 hT hU hn hm0 hb pb.1 (fun x hx => ?_))))
        obtain ⟨t, ht, ux⟩ := hx
        exact mb t x ht ⟨ux, Or.inl rfl⟩
      · have l64 := u64 l hl
        subst el
        have hlr : ps_L K l r := by
          rcases pb.2 with w | ⟨l', el', l31, hl'⟩
          · exact absurd w (ps_ne (by omega))
          · have e := ps_inj (by omega) l31 el'
            rw [e]; exact hl'
        refine br_f (ps_ne (by omega)) (And.intro (vp_in_nI l64 (by decide)) (nm_r (e' := upd nx l (nI r)) (by rw [nI_clamp (by omega)]) (nm_r (nI_1 i) (ih (i + 1) fi (nI r) (upd nx l (nI r)) (upd mh b (nx r)) (by omega) (by omega) (by omega) (ps_M2 hT hU hn hl hf hm0 hd hk hb pb.1 hlr (fun x hx hx2 => ?_))))))
        obtain ⟨t, ht, ux⟩ := hx
        exact mb t x ht ⟨ux, Or.inr ⟨l, rfl, by omega, hx2⟩⟩
theorem px_mc {wS rL sg rC gR hd lW lv oN ur cR : Int32} {K V N nx ws fo pr rs fs rc mh : Nat → Int32} {post : Int32 → SX → Prop} {T : Nat} {U : Nat → Nat → Prop} (T4 : T ≤ 4) (hU : ps_Ud T U) (hn : ∀ t x, t < T → U t x → ps_mi (ps_L K) (fun y => U t y ∧ ps_L K x y) (nx x)) (hm : ∀ t, t < T → ps_mi (ps_L K) (U t) (mh t))
    (hp : ∀ (fi : Int32) (nx' mh' : Nat → Int32), ps_mi (ps_L K) (ps_Un T U) fi → (∀ x, ps_Un T U x → ps_mi (ps_L K) (fun y => ps_Un T U y ∧ ps_L K x y) (nx' x)) → (∀ x, ¬ ps_Un T U x → nx' x = nx x) → post fi (nI T, wS, rL, sg, rC, gR, hd, lW, lv, oN, ur, cR, K, V, N, nx', ws, fo, pr, rs, fs, rc, mh')) : wpX_mergeChains post (nI T, wS, rL, sg, rC, gR, hd, lW, lv, oN, ur, cR, K, V, N, nx, ws, fo, pr, rs, fs, rc, mh) :=
  Exists.intro 65 (px_mcl T4 hU hn hp 65 0 (-1) (-1) nx mh (by omega) (by omega) (by have := ps_nP_le (ps_rem T (ps_L K) U (-1)) 64; omega) (Or.inl ⟨rfl, rfl, rfl, hm⟩))
/-! the first runs are taken from the input tapes -/
def ps_rp (T f : Nat) (rcN : Nat → Nat) (t : Nat) : Nat := if t < T ∧ t ≠ f then rcN t - 1 else rcN t
theorem px_mfl {wS rL sg rC gR hd lW lv ur cR : Int32} {K V N nx ws fo pr rs : Nat → Int32} {post : SX → Prop} {T f : Nat} {U : Nat → Nat → Prop} {fsN rcN : Nat → Nat} (T4 : T ≤ 4) (hf : f < T) (h32 : ∀ t, t < 4 → fsN t < 32) (h1 : ∀ t, t < T → t ≠ f → 1 ≤ rcN t) (hr : ∀ t, t < 4 → rcN t ≤ 32)
    (hU : ps_Ud T U) (hn : ∀ t x, t < T → U t x → ps_mi (ps_L K) (fun y => U t y ∧ ps_L K x y) (nx x)) (hm : ∀ t, t < T → t ≠ f → ps_mi (ps_L K) (U t) (rs (t * 32 + fsN t))) (hmf : ∀ x, ¬ U f x)
    (hp : ∀ (fi : Int32) (nx' fs rc mh : Nat → Int32), (∀ t, t < 4 → fs t = nI (ps_f1 T f fsN t)) → (∀ t, t < 4 → rc t = nI (ps_r1 T f rcN t)) → ps_mi (ps_L K) (ps_Un T U) fi → (∀ x, ps_Un T U x → ps_mi (ps_L K) (fun y => ps_Un T U y ∧ ps_L K x y) (nx' x)) → (∀ x, ¬ ps_Un T U x → nx' x = nx x) →
      post (nI T, wS, rL, sg, rC, gR, hd, lW, lv, nI f, ur, cR, K, V, N, nx', ws, fo, pr, upd rs (f * 32 + (fsN f + rcN f) % 32) fi, fs, rc, mh)) :
    ∀ (m i : Nat) (fs rc mh : Nat → Int32), i ≤ T → T - i < m → (∀ t, t < 4 → fs t = nI (ps_f1 i f fsN t)) → (∀ t, t < 4 → rc t = nI (ps_rp i f rcN t)) → (∀ t, t < i → t ≠ f → mh t = rs (t * 32 + fsN t)) → (∀ t, t < i → t = f → mh t = -1) → wX_mergeFirstRuns_2 post m (nI i) (nI T) wS rL sg rC gR hd lW lv (nI f) ur cR K V N nx ws fo pr rs fs rc mh := by
  intro m
  induction m with
  | zero => intro i fs rc mh _ h; omega
  | succ m ih =>
    intro i fs rc mh hi hm2 hfs hrc hmh hmhf
    refine ps_if (d := T ≤ i) (nI_leI (by omega) (by omega)) (fun q => ?_) (fun q => ?_)
    · have e : i = T := by omega
      subst e
      refine px_mc T4 hU hn (fun t ht => ?_) (fun fi nx' mh' a b c => ?_)
      · by_cases e : t = f
        · rw [hmhf t ht e, e]; exact ps_mi_0 hmf
        · rw [hmh t ht e]; exact hm t ht e
      · have e1 : fs f = nI (fsN f) := by rw [hfs f (by omega)]; unfold ps_f1; rw [if_neg (by omega)]
        have e2 : rc f = nI (rcN f) := by rw [hrc f (by omega)]; unfold ps_rp; rw [if_neg (by omega)]
        refine px_ap (by omega) e1 e2 (h32 f (by omega)) (by have := hr f (by omega); omega) ?_
        refine hp fi nx' fs _ mh' hfs (fun t ht => ?_) a b c
        by_cases e : t = f
        · rw [e, pk_us]; unfold ps_r1; rw [if_pos rfl]
        · rw [pk_un e, hrc t ht]
          unfold ps_rp ps_r1
          by_cases g : t < i
          · rw [if_pos ⟨g, e⟩, if_neg e, if_pos g]
          · rw [if_neg (fun z => g z.1), if_neg e, if_neg g]
    · have iT : i < T := by omega
      have ei : (nI i).toNatClampNeg = i := nI_clamp (by omega)
      have ii : vp_in (nI i) 4 := vp_in_nI (by omega) (by decide)
      refine ps_if (d := i = f) (nI_eq (by omega) (by omega)) (fun z => ?_) (fun z => ?_)
      · refine And.intro ii (nm_r (e' := upd mh i (-1)) (by rw [ei]) (nm_r (nI_1 i) (ih (i + 1) fs rc (upd mh i (-1)) (by omega) (by omega) (fun t ht => ?_) (fun t ht => ?_) (fun t ht tf => ?_) (fun t ht tf => ?_))))
        · rw [hfs t ht]
          unfold ps_f1
          by_cases g : t < i ∧ t ≠ f
          · rw [if_pos g, if_pos ⟨by omega, g.2⟩]
          · rw [if_neg g, if_neg (by omega)]
        · rw [hrc t ht]
          unfold ps_rp
          by_cases g : t < i ∧ t ≠ f
          · rw [if_pos g, if_pos ⟨by omega, g.2⟩]
          · rw [if_neg g, if_neg (by omega)]
        · rw [pk_un (by omega)]; exact hmh t (by omega) tf
        · by_cases g : t = i
          · rw [g, pk_us]
          · rw [pk_un g]; exact hmhf t (by omega) tf
      · have e1 : fs i = nI (fsN i) := by rw [hfs i (by omega)]; unfold ps_f1; rw [if_neg (by omega)]
        have e2 : rc i = nI (rcN i) := by rw [hrc i (by omega)]; unfold ps_rp; rw [if_neg (by omega)]
        refine px_tk (by omega) e1 e2 (h32 i (by omega)) (h1 i iT z) ?_
        refine And.intro ii (nm_r (e' := upd mh i (rs (i * 32 + fsN i))) (by rw [ei]) (nm_r (nI_1 i) (ih (i + 1) _ _ (upd mh i (rs (i * 32 + fsN i))) (by omega) (by omega) (fun t ht => ?_) (fun t ht => ?_) (fun t ht tf => ?_) (fun t ht tf => ?_))))
        · by_cases g : t = i
          · rw [g, pk_us]; unfold ps_f1; rw [if_pos ⟨by omega, z⟩]
          · rw [pk_un g, hfs t ht]
            unfold ps_f1
            by_cases y : t < i ∧ t ≠ f
            · rw [if_pos y, if_pos ⟨by omega, y.2⟩]
            · rw [if_neg y, if_neg (by omega)]
        · by_cases g : t = i
          · rw [g, pk_us]; unfold ps_rp; rw [if_pos ⟨by omega, z⟩]
          · rw [pk_un g, hrc t ht]
            unfold ps_rp
            by_cases y : t < i ∧ t ≠ f
            · rw [if_pos y, if_pos ⟨by omega, y.2⟩]
            · rw [if_neg y, if_neg (by omega)]
        · by_cases g : t = i
          · rw [g, pk_us]
          · rw [pk_un g]; exact hmh t (by omega) tf
        · rw [pk_un (by omega)]; exact hmhf t (by omega) tf
theorem px_mf {wS rL sg rC gR hd lW lv ur cR : Int32} {K V N nx ws fo pr rs fs rc mh : Nat → Int32} {post : SX → Prop} {T c f : Nat} {fsN rcN own : Nat → Nat} (T4 : T ≤ 4) (hc : c ≤ 64) (hf : f < T) (hfr : ∀ t, t < 4 → fs t = nI (fsN t) ∧ fsN t < 32 ∧ rc t = nI (rcN t)) (h1 : ∀ t, t < T → t ≠ f → 1 ≤ rcN t) (hr : ∀ t, t < 4 → rcN t ≤ 31)
    (O : ps_Own c (ps_L K) own (ps_live fsN rcN) nx rs)
    (hp : ∀ (own' : Nat → Nat) (nx' rs' fs' rc' mh' : Nat → Int32), (∀ t, t < 4 → fs' t = nI (ps_f1 T f fsN t)) → (∀ t, t < 4 → rc' t = nI (ps_r1 T f rcN t)) → ps_Own c (ps_L K) own' (ps_live (ps_f1 T f fsN) (ps_r1 T f rcN)) nx' rs' → post (nI T, wS, rL, sg, rC, gR, hd, lW, lv, nI f, ur, cR, K, V, N, nx', ws, fo, pr, rs', fs', rc', mh')) :
    wpX_mergeFirstRuns post (nI T, wS, rL, sg, rC, gR, hd, lW, lv, nI f, ur, cR, K, V, N, nx, ws, fo, pr, rs, fs, rc, mh) := by
  have h32 : ∀ t, t < 4 → fsN t < 32 := fun t ht => (hfr t ht).2.1
  have lv : ∀ t, t < T → t ≠ f → ps_live fsN rcN (t * 32 + fsN t) := by
    intro t ht tf
    have a := h32 t (by omega)
    have b := h1 t ht tf
    have e : (t * 32 + fsN t) / 32 = t := by omega
    refine ⟨by omega, ?_⟩
    rw [e]
    omega
  refine Exists.intro (T + 1) (px_mfl (U := fun t x => x < c ∧ t ≠ f ∧ own x = t * 32 + fsN t) T4 hf h32 h1 (fun t ht => by have := hr t ht; omega) ⟨fun t x _ h => by have := h.1; omega, fun t t' x ht ht' h h' => ?_⟩ (fun t x ht h => ?_) (fun t ht tf => ?_) (fun x h => h.2.1 rfl) (fun fi nx' fs' rc' mh' a b c2 d e => ?_) (T + 1) 0 fs rc mh (by omega) (by omega) (fun t ht => ?_) (fun t ht => ?_) (fun t h => absurd h (Nat.not_lt_zero t)) (fun t h => absurd h (Nat.not_lt_zero t)))
  · have a := h.2.2
    have b := h'.2.2
    have g1 := h32 t (by omega)
    have g2 := h32 t' (by omega)
    omega
  · refine ps_mi_c (fun y => ⟨fun z => ⟨⟨z.1, h.2.1, z.2.1.trans h.2.2⟩, z.2.2⟩, fun z => ⟨z.1.1, z.1.2.2.trans h.2.2.symm, z.2⟩⟩) (O.2.2 x h.1)
  · exact ps_mi_c (fun y => ⟨fun z => ⟨z.1, tf, z.2⟩, fun z => ⟨z.1, z.2.2⟩⟩) (O.2.1 _ (lv t ht tf))
  · obtain ⟨own', O'⟩ := ps_OwnM (Z := f * 32 + (fsN f + rcN f) % 32) (live' := ps_live (ps_f1 T f fsN) (ps_r1 T f rcN)) (Rm := fun s => ∃ t, t < T ∧ t ≠ f ∧ s = t * 32 + fsN t) (rs' := upd rs (f * 32 + (fsN f + rcN f) % 32) fi) O
      (fun x => ⟨fun ⟨t, ht, h⟩ => ⟨h.1, t, ht, h.2.1, h.2.2⟩, fun ⟨hx, t, ht, tf, ho⟩ => ⟨t, ht, hx, tf, ho⟩⟩)
      (ps_liveZ (h32 f (by omega)) (by have := hr f (by omega); omega))
      (fun s => ps_liveM T4 hf h32 (fun t ht tf => ⟨h1 t ht tf, by have := hr t (by omega); omega⟩) (by have := hr f (by omega); omega))
      (fun s hs => pk_un hs) pk_us c2 d e
    exact hp own' nx' _ fs' rc' mh' a b O'
  · rw [(hfr t ht).1]; unfold ps_f1; rw [if_neg (fun z => absurd z.1 (Nat.not_lt_zero t))]
  · rw [(hfr t ht).2.2]; unfold ps_rp; rw [if_neg (fun z => absurd z.1 (Nat.not_lt_zero t))]
end
section
/-! mergeOne and mergePhase. -/
theorem ps_cb {T n f d : Nat} {rcN : Nat → Nat} (hT : ps_T34 T) (hf : f < T) (h : ps_Rc T n f d rcN) :
    (f + T - 1) % T < T ∧ (f + T - 1) % T ≠ f ∧ rcN ((f + T - 1) % T) = ps_pa T n (T - 2) - d := by
  have lt : (f + T - 1) % T < T := Nat.mod_lt _ (by omega)
  have ne : (f + T - 1) % T ≠ f := by
    rcases hT with e | e <;> subst e <;> omega
  refine ⟨lt, ne, ?_⟩
  rw [h _ lt, if_neg ne]
  have e : ((f + T - 1) % T + T - f - 1) % T = T - 2 := by
    rcases hT with e | e <;> subst e <;> omega
  rw [e]
theorem ps_ci {T f t : Nat} (hT : ps_T34 T) (hf : f < T) (ht : t < T) (tf : t ≠ f) : (t + T - f - 1) % T + 1 < T := by
  rcases hT with e | e <;> subst e <;> omega
theorem ps_Rc0 {T f : Nat} {rc : Nat → Nat} (hT : ps_T34 T) (hf : f < T) (h : ps_Rc T 0 ((f + T - 1) % T) 0 rc) : rc f = 1 ∧ ∀ t, t < T → t ≠ f → rc t = 0 := by
  have p0 : ps_pa T 0 0 = 1 := rfl
  refine ⟨?_, fun t ht tf => ?_⟩
  · rw [h f hf]
    have ne : ¬ f = (f + T - 1) % T := by
      rcases hT with e | e <;> subst e <;> omega
    have e : (f + T - (f + T - 1) % T - 1) % T = 0 := by
      rcases hT with e | e <;> subst e <;> omega
    rw [if_neg ne, e, p0]
  · rw [h t ht]
    by_cases q : t = (f + T - 1) % T
    · rw [if_pos q]
    · rw [if_neg q]
      have e : ¬ (t + T - (f + T - 1) % T - 1) % T = 0 := by
        rcases hT with e | e <;> subst e <;> omega
      have p : ps_pa T 0 ((t + T - (f + T - 1) % T - 1) % T) = 0 := if_neg e
      rw [p]
/-! the reference's step -/
def ps_hu (f : Nat) (hl : Nat → Int32) : Nat → (Nat → Int32)
  | 0 => hl
  | i + 1 => upd (ps_hu f hl i) i (if i = f then ps_hu f hl i i + 1 else ps_hu f hl i i - 1)
theorem ps_hu_s (f : Nat) (hl : Nat → Int32) (i : Nat) : ps_hu f hl (i + 1) = upd (ps_hu f hl i) i (if i = f then ps_hu f hl i i + 1 else ps_hu f hl i i - 1) := rfl
theorem ps_hu_v (f : Nat) (hl : Nat → Int32) : ∀ i t, (t < i → ps_hu f hl i t = if t = f then hl t + 1 else hl t - 1) ∧ (i ≤ t → ps_hu f hl i t = hl t) := by
  intro i
  induction i with
  | zero => intro t; exact ⟨fun h => absurd h (Nat.not_lt_zero t), fun _ => rfl⟩
  | succ i ih =>
    intro t
    rw [ps_hu_s]
    refine ⟨fun h => ?_, fun h => ?_⟩
    · by_cases e : t = i
      · rw [e, pk_us, (ih i).2 (Nat.le_refl i)]
      · rw [pk_un e]; exact (ih t).1 (by omega)
    · rw [pk_un (by omega)]; exact (ih t).2 (by omega)
theorem py_12 {yW yA yg yc yl yL : Int32} {K V N ins row : Nat → Int32} {post : Int32 → SY → Prop} {T f : Nat} {hl : Nat → Int32} (hT : ps_T34 T) (hf : f < T) (he : wY_mergeOne_79 post (nI ((f + T - 1) % T)) (nI T) yW yA yg yc yl (nI f) yL K V N ins row (ps_hu f hl T)) :
    ∀ m i, i ≤ T → T - i < m → wY_mergeOne_12 post (nI T) yW yA yg yc yl (nI f) yL m (nI i) K V N ins row (ps_hu f hl i) := by
  have t4 := ps_T4 hT
  intro m
  induction m with
  | zero => intro i _ h; omega
  | succ m ih =>
    intro i hi hm
    refine ps_if (d := T ≤ i) (nI_leI (by omega) (by omega)) (fun q => ?_) (fun q => ?_)
    · have e : i = T := by omega
      rw [e]
      refine ps_if (d := f = 0) (nI_eq (b := 0) (by omega) (by omega)) (fun z => ?_) (fun z => ?_)
      · have g : nI ((f + T - 1) % T) = nI T - 1 := by
          rw [ps_p1 (by omega)]
          refine congrArg nI ?_
          rcases hT with e | e <;> subst e <;> omega
        rw [← g]; exact he
      · have g : nI ((f + T - 1) % T) = nI f - 1 := by
          rw [ps_p1 (by omega)]
          refine congrArg nI ?_
          rcases hT with e | e <;> subst e <;> omega
        rw [← g]; exact he
    · have ei : (nI i).toNatClampNeg = i := nI_clamp (by omega)
      have ii : vp_in (nI i) 4 := vp_in_nI (by omega) (by decide)
      refine ps_if (d := i = f) (nI_eq (by omega) (by omega)) (fun z => ?_) (fun z => ?_)
      · exact And.intro ii (And.intro ii (nm_r (e' := ps_hu f hl (i + 1)) (by rw [ei, ps_hu_s, if_pos z]) (nm_r (nI_1 i) (ih (i + 1) (by omega) (by omega)))))
      · exact And.intro ii (And.intro ii (nm_r (e' := ps_hu f hl (i + 1)) (by rw [ei, ps_hu_s, if_neg z]) (nm_r (nI_1 i) (ih (i + 1) (by omega) (by omega)))))
theorem py_79 {yT yW yA yg yc yo yL : Int32} {K V N ins row hl : Nat → Int32} {post : Int32 → SY → Prop} {b s n : Nat} (hb : b < 4) (hs : hl b = nI s) (s1 : s < 1000) (n1 : 1 ≤ n) (n2 : n < 1000)
    (h0 : 1 ≤ s → post 0 (yT, yW, yA, yg, yc, nI n, yo, yL, K, V, N, ins, row, hl)) (h5 : s = 0 → n = 1 → post 5 (yT, yW, yA, 2, yc, nI (n - 1), yo, -1, K, V, N, ins, row, hl)) (h4 : s = 0 → 2 ≤ n → post 4 (yT, yW, yA, yg, yc, nI (n - 1), nI b, yL, K, V, N, ins, row, hl)) : wY_mergeOne_79 post (nI b) yT yW yA yg yc (nI n) yo yL K V N ins row hl := by
  have eb : (nI b).toNatClampNeg = b := nI_clamp (by omega)
  refine And.intro (vp_in_nI hb (by decide)) (ps_if (d := s ≤ 0) (by rw [eb, hs]; exact nI_leI (b := 0) (by omega) (by omega)) (fun z => ?_) (fun z => h0 (by omega)))
  refine nm_r (ps_p1 n1) (ps_if (d := n - 1 = 0) (nI_eq (b := 0) (by omega) (by omega)) (fun y => h5 (by omega) (by omega)) (fun y => h4 (by omega) (by omega)))
/-! the component's step -/
theorem px_mo {wS rL rC gR hd lW ur cR : Int32} {K V N nx ws fo pr rs fs rc mh : Nat → Int32} {post : Int32 → SX → Prop} {T c n f s : Nat} {fsN rcN own : Nat → Nat} (hT : ps_T34 T) (hc : c ≤ 64) (hf : f < T) (n1 : 1 ≤ n) (n2 : n < 1000) (hfr : ∀ t, t < 4 → fs t = nI (fsN t) ∧ fsN t < 32 ∧ rc t = nI (rcN t)) (h1 : ∀ t, t < T → t ≠ f → 1 ≤ rcN t) (hr : ∀ t, t < 4 → rcN t ≤ 31)
    (O : ps_Own c (ps_L K) own (ps_live fsN rcN) nx rs) (hs : ps_r1 T f rcN ((f + T - 1) % T) = s)
    (hp : ∀ (own' : Nat → Nat) (nx' rs' fs' rc' mh' : Nat → Int32), (∀ t, t < 4 → fs' t = nI (ps_f1 T f fsN t)) → (∀ t, t < 4 → rc' t = nI (ps_r1 T f rcN t)) → ps_Own c (ps_L K) own' (ps_live (ps_f1 T f fsN) (ps_r1 T f rcN)) nx' rs' →
      (1 ≤ s → post 0 (nI T, wS, rL, 1, rC, gR, hd, lW, nI n, nI f, ur, cR, K, V, N, nx', ws, fo, pr, rs', fs', rc', mh')) ∧ (s = 0 → n = 1 → post 5 (nI T, wS, rL, 2, rC, gR, hd, lW, nI (n - 1), nI f, rs' (f * 32 + ps_f1 T f fsN f), -1, K, V, N, nx', ws, fo, pr, rs', fs', rc', mh')) ∧ (s = 0 → 2 ≤ n → post 4 (nI T, wS, rL, 1, rC, gR, hd, lW, nI (n - 1), nI ((f + T - 1) % T), ur, cR, K, V, N, nx', ws, fo, pr, rs', fs', rc', mh'))) :
    wpX_mergeOne post (nI T, wS, rL, 1, rC, gR, hd, lW, nI n, nI f, ur, cR, K, V, N, nx, ws, fo, pr, rs, fs, rc, mh) := by
  have t4 := ps_T4 hT
  refine br_t rfl ?_
  refine px_mf (by omega) hc hf hfr h1 hr O (fun own' nx' rs' fs' rc' mh' a b O' => ?_)
  obtain ⟨g0, g5, g4⟩ := hp own' nx' rs' fs' rc' mh' a b O'
  have hb : (f + T - 1) % T < T := Nat.mod_lt _ (by omega)
  have f1 : ps_f1 T f fsN f = fsN f := by unfold ps_f1; rw [if_neg (by omega)]
  have f32 : fsN f < 32 := (hfr f (by omega)).2.1
  have e1 : (nI f + nI T) - 1 = nI (f + T - 1) := by rw [nI_add, ps_p1 (by omega)]
  have sb : s ≤ 32 := by
    rw [← hs]
    unfold ps_r1
    have := hr ((f + T - 1) % T) (by omega)
    split
    · omega
    · omega
  refine And.intro (nI_ne0 (by omega) (by omega)) (nm_r (e' := nI ((f + T - 1) % T)) (by rw [e1]; exact pk_rem (by omega) (by omega) (by omega)) ?_)
  have eb : (nI ((f + T - 1) % T)).toNatClampNeg = (f + T - 1) % T := nI_clamp (by omega)
  refine And.intro (vp_in_nI (by omega) (by decide)) (ps_if (d := s ≤ 0) (by rw [eb, b _ (by omega), hs]; exact nI_leI (b := 0) (by omega) (by omega)) (fun z => ?_) (fun z => g0 (by omega)))
  refine nm_r (ps_p1 n1) (ps_if (d := n - 1 = 0) (nI_eq (b := 0) (by omega) (by omega)) (fun y => ?_) (fun y => g4 (by omega) (by omega)))
  exact px_es (by omega) (a f (by omega)) (by rw [f1]; exact f32) (g5 (by omega) (by omega))
theorem ps_step1 {e : Nat} {u : SX} {v : SY} (I : ps_RMe e u v) : e ≤ 24 ∧ ∃ (r : Int32) (v' : SY), (∀ post : Int32 → SY → Prop, post r v' → wpY_mergeOne post v) ∧
    (∀ post : Int32 → SX → Prop, (∀ u', ((r = 0 ∧ ps_RMe (e - 1) u' v' ∧ 2 ≤ e) ∨ (r = 4 ∧ ps_RM u' v') ∨ (r = 5 ∧ ps_RS u' v')) → post r u') → wpX_mergeOne post u) := by
  obtain ⟨T, W, A, c, R, n, f, d, rn, fsN, rcN, own, lW, K, V, N, nx, ws, fo, pr, rs, fs, rc, mh, ins, row, hl, HC, HM, hin, rfl, rfl⟩ := I
  have hh := ps_hN HC
  have hT := HC.1
  have t4 := ps_T4 hT
  obtain ⟨n1, nT, hf, ⟨he, e1⟩, hRc, hz, hfr, hhl, O⟩ := HM
  have pab := ps_pab hT nT (T - 2)
  have cb := ps_cb hT hf hRc
  have tt := ps_tt1 hT n1 nT
  have h1 : ∀ t, t < T → t ≠ f → 1 ≤ rcN t := by
    intro t ht tf
    have a := ps_ci hT hf ht tf
    have b := tt.2 _ a
    rw [hRc t ht, if_neg tf]
    omega
  have hr : ∀ t, t < 4 → rcN t ≤ 31 := by
    intro t ht
    by_cases g : t < T
    · have a := ps_pab hT nT ((t + T - f - 1) % T)
      rw [hRc t g]
      split <;> omega
    · rw [hz t (by omega) ht]; omega
  have hs : ps_r1 T f rcN ((f + T - 1) % T) = e - 1 := by
    unfold ps_r1
    rw [if_neg cb.2.1, if_pos cb.1, cb.2.2]
    omega
  have hRc' : ps_Rc T n f (d + 1) (ps_r1 T f rcN) := by
    refine ps_RcM hf hRc (fun t ht => ?_)
    unfold ps_r1
    by_cases g : t = f
    · rw [if_pos g, if_pos g]
    · rw [if_neg g, if_neg g, if_pos ht]
  have hz' : ∀ t, T ≤ t → t < 4 → ps_r1 T f rcN t = 0 := by
    intro t tT ht
    unfold ps_r1
    rw [if_neg (by omega), if_neg (by omega)]
    exact hz t tT ht
  have hl' : ∀ t, t < T → ps_hu f hl T t = nI (ps_r1 T f rcN t) := by
    intro t ht
    rw [(ps_hu_v f hl T t).1 ht, hhl t ht]
    unfold ps_r1
    by_cases g : t = f
    · rw [if_pos g, if_pos g, nI_1]
    · rw [if_neg g, if_neg g, if_pos ht, ps_p1 (h1 t ht g)]
  have f1 : ∀ t, t < 4 → ps_f1 T f fsN t < 32 := by
    intro t ht
    unfold ps_f1
    have := (hfr t ht).2.1
    split <;> omega
  refine ⟨by omega, ?_⟩
  by_cases e2 : 2 ≤ e
  · refine ⟨0, (nI T, nI W, nI A, 1, nI c, nI n, nI f, -1, K, V, N, ins, row, ps_hu f hl T), fun post hp => ?_, fun post hp => ?_⟩
    · exact br_t rfl (Exists.intro (T + 1) (py_12 hT hf (py_79 (by omega) (hl' _ cb.1) (by rw [hs]; omega) n1 (by omega) (fun _ => hp) (fun z => by rw [hs] at z; omega) (fun z => by rw [hs] at z; omega)) (T + 1) 0 (by omega) (by omega)))
    · refine px_mo hT hh.1 hf n1 (by omega) hfr h1 hr O hs (fun own' nx' rs' fs' rc' mh' a b O' => ⟨fun _ => hp _ (Or.inl ⟨rfl, ?_, e2⟩), fun z => by omega, fun z => by omega⟩)
      exact ⟨T, W, A, c, R, n, f, d + 1, rn, ps_f1 T f fsN, ps_r1 T f rcN, own', lW, K, V, N, nx', ws, fo, pr, rs', fs', rc', mh', ins, row, ps_hu f hl T, HC, ⟨n1, nT, hf, ⟨by omega, by omega⟩, hRc', hz', fun t ht => ⟨a t ht, f1 t ht, b t ht⟩, hl', O'⟩, hin, rfl, rfl⟩
  · have e0 : e = 1 := by omega
    have ed : d + 1 = ps_pa T n (T - 2) := by omega
    obtain ⟨n', rfl⟩ : ∃ n', n = n' + 1 := ⟨n - 1, by omega⟩
    have hRcP : ps_Rc T n' ((f + T - 1) % T) 0 (ps_r1 T f rcN) := ps_RcP hT nT hf (ed ▸ hRc')
    by_cases n0 : n' = 0
    · subst n0
      refine ⟨5, (nI T, nI W, nI A, 2, nI c, nI 0, nI f, -1, K, V, N, ins, row, ps_hu f hl T), fun post hp => ?_, fun post hp => ?_⟩
      · exact br_t rfl (Exists.intro (T + 1) (py_12 hT hf (py_79 (by omega) (hl' _ cb.1) (by rw [hs]; omega) n1 (by omega) (fun z => by rw [hs] at z; omega) (fun _ _ => hp) (fun _ z => by omega)) (T + 1) 0 (by omega) (by omega)))
      · refine px_mo hT hh.1 hf n1 (by omega) hfr h1 hr O hs (fun own' nx' rs' fs' rc' mh' a b O' => ⟨fun z => by omega, fun _ _ => hp _ (Or.inr (Or.inr ⟨rfl, ?_⟩)), fun _ z => by omega⟩)
        have r0 := ps_Rc0 hT hf hRcP
        have ff := f1 f (by omega)
        have l0 : ps_live (ps_f1 T f fsN) (ps_r1 T f rcN) (f * 32 + ps_f1 T f fsN f) := by
          have g : (f * 32 + ps_f1 T f fsN f) / 32 = f := by omega
          refine ⟨by omega, ?_⟩
          rw [g, r0.1]
          omega
        have l1 : ∀ s, ps_live (ps_f1 T f fsN) (ps_r1 T f rcN) s → s = f * 32 + ps_f1 T f fsN f := by
          intro s hs2
          obtain ⟨s1, s2⟩ := hs2
          by_cases g : s / 32 = f
          · rw [g, r0.1] at s2
            omega
          · exfalso
            by_cases y : s / 32 < T
            · rw [r0.2 _ y g] at s2; exact absurd s2 (Nat.not_lt_zero _)
            · rw [hz' _ (by omega) (by omega)] at s2; exact absurd s2 (Nat.not_lt_zero _)
        have S := ps_toS O' l0 l1
        refine ⟨-1, T, W, A, c, R, f, ps_f1 T f fsN f, rn, rs' (f * 32 + ps_f1 T f fsN f), lW, K, V, N, nx', ws, fo, pr, rs', fs', rc', mh', ins, row, ps_hu f hl T, HC, ⟨hf, ff, a f (by omega), fun t ht => ?_, S.1, S.2, Or.inl rfl, ?_⟩, hin, rfl, rfl⟩
        · rw [b t (by omega), hl' t ht]
        · exact ps_mi_c (fun y => ⟨fun z => ⟨z, Or.inl rfl⟩, fun z => z.1⟩) S.1
    · refine ⟨4, (nI T, nI W, nI A, 1, nI c, nI n', nI ((f + T - 1) % T), -1, K, V, N, ins, row, ps_hu f hl T), fun post hp => ?_, fun post hp => ?_⟩
      · exact br_t rfl (Exists.intro (T + 1) (py_12 hT hf (py_79 (by omega) (hl' _ cb.1) (by rw [hs]; omega) n1 (by omega) (fun z => by rw [hs] at z; omega) (fun _ z => by omega) (fun _ _ => hp)) (T + 1) 0 (by omega) (by omega)))
      · refine px_mo hT hh.1 hf n1 (by omega) hfr h1 hr O hs (fun own' nx' rs' fs' rc' mh' a b O' => ⟨fun z => by omega, fun _ z => by omega, fun _ _ => hp _ (Or.inr (Or.inl ⟨rfl, ?_⟩))⟩)
        exact ⟨ps_pa T n' (T - 2), T, W, A, c, R, n', (f + T - 1) % T, 0, rn, ps_f1 T f fsN, ps_r1 T f rcN, own', lW, K, V, N, nx', ws, fo, pr, rs', fs', rc', mh', ins, row, ps_hu f hl T, HC, ⟨by omega, by omega, cb.1, ⟨by omega, (ps_tt1 hT (by omega) (by omega)).1⟩, hRcP, hz', fun t ht => ⟨a t ht, f1 t ht, b t ht⟩, hl', O'⟩, hin, rfl, rfl⟩
theorem i_vc_mergeOne {k : Nat} {u : SX} {v : SY} (I : i_Rel k u v) (hk : k + 3 ≤ 1539) : wpX_mergeOne (fun r u' => wpY_mergeOne (fun r' v' => r' = r ∧ i_Rel (k + 3) u' v') v) u := by
  have I' := I
  rcases I with I | I | I
  · obtain ⟨T, W, A, c, R, h, rn, w, wr, lW, yl, yo, K, V, N, nx, ws, fo, pr, rs, fs, rc, mh, ins, row, hl, HC, HF, rfl, rfl⟩ := I
    exact br_f (by decide) (br_f (by decide) ⟨rfl, I'⟩)
  · obtain ⟨e, I⟩ := I
    obtain ⟨_, r, v', hY, hX⟩ := ps_step1 I
    refine hX _ (fun u' hu => hY _ ⟨rfl, ?_⟩)
    rcases hu with ⟨_, h, _⟩ | ⟨_, h⟩ | ⟨_, h⟩
    · exact Or.inr (Or.inl ⟨_, h⟩)
    · exact Or.inr (Or.inl h)
    · exact Or.inr (Or.inr h)
  · obtain ⟨la, T, W, A, c, R, f, p, rn, ur, lW, K, V, N, nx, ws, fo, pr, rs, fs, rc, mh, ins, row, hl, HC, HS, hin, rfl, rfl⟩ := I
    exact br_f (by decide) (br_f (by decide) ⟨rfl, I'⟩)
def px_MP (post : Int32 → SX → Prop) (n : Nat) (r x : Int32) (u : SX) : Prop := match u with
  | (tT, wS, rL, sg, rC, gR, hd, lW, lv, oN, ur, cR, K, V, N, nx, ws, fo, pr, rs, fs, rc, mh) => wX_mergePhase_7 post n r x tT wS rL sg rC gR hd lW lv oN ur cR K V N nx ws fo pr rs fs rc mh
def py_MP (post : Int32 → SY → Prop) (n : Nat) (r x : Int32) (v : SY) : Prop := match v with
  | (yT, yW, yA, yg, yc, yl, yo, yL, K, V, N, ins, row, hl) => wY_mergePhase_4 post n r x yT yW yA yg yc yl yo yL K V N ins row hl
theorem ps_mpl {k : Nat} (v0 : SY) : ∀ (m i : Nat) (r : Int32) (u : SX) (v : SY), 32 - i < m → i ≤ 32 → ((r = 0 ∧ ∃ e, ps_RMe e u v ∧ e + i ≤ 23) ∨ (¬ r = 0 ∧ i_Rel (k + 3) u v)) →
    (∀ post : Int32 → SY → Prop, py_MP post (63 - i) r (nI (i + 1)) v → wpY_mergePhase post v0) → px_MP (fun r u' => wpY_mergePhase (fun r' v' => r' = r ∧ i_Rel (k + 3) u' v') v0) m r (nI i) u := by
  intro m
  induction m with
  | zero => intro i r u v h; omega
  | succ m ih =>
    intro i r u v hm hi Q H
    obtain ⟨tT, wS, rL, sg, rC, gR, hd, lW, lv, oN, ur, cR, K, V, N, nx, ws, fo, pr, rs, fs, rc, mh⟩ := u
    obtain ⟨yT, yW, yA, yg, yc, yl, yo, yL, JK, JV, JN, ins, row, hl⟩ := v
    have ef : 63 - i = (62 - i) + 1 := by omega
    by_cases r0 : r = 0
    · obtain ⟨e, I, ei⟩ : ∃ e, ps_RMe e (tT, wS, rL, sg, rC, gR, hd, lW, lv, oN, ur, cR, K, V, N, nx, ws, fo, pr, rs, fs, rc, mh) (yT, yW, yA, yg, yc, yl, yo, yL, JK, JV, JN, ins, row, hl) ∧ e + i ≤ 23 := by
        rcases Q with ⟨_, q⟩ | ⟨q, _⟩
        · exact q
        · exact absurd r0 q
      clear Q
      obtain ⟨_, r', v', hY, hX⟩ := ps_step1 I
      refine br_f (nI_ge (b := 32) (by omega) (by decide)) (br_t r0 (hX _ (fun u' hu => ?_)))
      have R := ih (i + 1) r' u' v' (by omega) (by omega) (by
        rcases hu with ⟨a, h, _⟩ | ⟨a, h⟩ | ⟨a, h⟩
        · exact Or.inl ⟨a, e - 1, h, by omega⟩
        · exact Or.inr ⟨by rw [a]; decide, Or.inr (Or.inl h)⟩
        · exact Or.inr ⟨by rw [a]; decide, Or.inr (Or.inr h)⟩) (fun post hp => by
          refine H post ?_
          rw [ef]
          refine br_f (nI_ge (b := 64) (by omega) (by decide)) (br_t r0 (hY _ ?_))
          obtain ⟨yT', yW', yA', yg', yc', yl', yo', yL', JK', JV', JN', ins', row', hl'⟩ := v'
          have e2 : 63 - (i + 1) = 62 - i := by omega
          rw [e2] at hp
          exact nm_r (nI_1 (i + 1)) hp)
      obtain ⟨tT', wS', rL', sg', rC', gR', hd', lW', lv', oN', ur', cR', K', V', N', nx', ws', fo', pr', rs', fs', rc', mh'⟩ := u'
      exact nm_r (nI_1 i) R
    · have rel : i_Rel (k + 3) (tT, wS, rL, sg, rC, gR, hd, lW, lv, oN, ur, cR, K, V, N, nx, ws, fo, pr, rs, fs, rc, mh) (yT, yW, yA, yg, yc, yl, yo, yL, JK, JV, JN, ins, row, hl) := by
        rcases Q with ⟨q, _⟩ | ⟨_, q⟩
        · exact absurd q r0
        · exact q
      have P : wpY_mergePhase (fun r' v' => r' = r ∧ i_Rel (k + 3) (tT, wS, rL, sg, rC, gR, hd, lW, lv, oN, ur, cR, K, V, N, nx, ws, fo, pr, rs, fs, rc, mh) v') v0 := by
        refine H _ ?_
        rw [ef]
        exact br_c (fun _ => ⟨rfl, rel⟩) (fun _ => br_f r0 ⟨rfl, rel⟩)
      exact br_c (fun _ => P) (fun _ => br_f r0 P)
theorem i_vc_mergePhase {k : Nat} {u : SX} {v : SY} (I : i_Rel k u v) (hk : k + 3 ≤ 1539) : wpX_mergePhase (fun r u' => wpY_mergePhase (fun r' v' => r' = r ∧ i_Rel (k + 3) u' v') v) u := by
  have I' := I
  rcases I with I | I | I
  · obtain ⟨T, W, A, c, R, h, rn, w, wr, lW, yl, yo, K, V, N, nx, ws, fo, pr, rs, fs, rc, mh, ins, row, hl, HC, HF, rfl, rfl⟩ := I
    unfold wpX_mergePhase
    exact br_f (by decide) (Exists.intro 1 (br_f (by decide) (br_f (by decide) (Exists.intro 2 (br_f (by decide) (br_t rfl (br_f (by decide) (nm_e (br_f (by decide) (br_f (by decide) ⟨rfl, I'⟩))))))))))
  · obtain ⟨e, I⟩ := I
    have S := ps_step1 I
    obtain ⟨e24, r, v', hY, hX⟩ := S
    have H : ∀ post : Int32 → SY → Prop, py_MP post (63 - 0) r (nI (0 + 1)) v' → wpY_mergePhase post v := by
      intro post hp
      obtain ⟨T, W, A, c, R, n, f, d, rn, fsN, rcN, own, lW, K, V, N, nx, ws, fo, pr, rs, fs, rc, mh, ins, row, hl, HC, HM, hin, rfl, rfl⟩ := I
      refine Exists.intro 64 (br_f (by decide) (br_t rfl (hY _ ?_)))
      obtain ⟨yT', yW', yA', yg', yc', yl', yo', yL', JK', JV', JN', ins', row', hl'⟩ := v'
      exact nm_r (nI_1 0) hp
    have G : ∀ u', ((r = 0 ∧ ps_RMe (e - 1) u' v' ∧ 2 ≤ e) ∨ (r = 4 ∧ ps_RM u' v') ∨ (r = 5 ∧ ps_RS u' v')) → px_MP (fun r u' => wpY_mergePhase (fun r' v' => r' = r ∧ i_Rel (k + 3) u' v') v) 33 r (nI 0) u' := by
      intro u' hu
      refine ps_mpl v 33 0 r u' v' (by omega) (by omega) ?_ H
      rcases hu with ⟨a, h, _⟩ | ⟨a, h⟩ | ⟨a, h⟩
      · exact Or.inl ⟨a, e - 1, h, by omega⟩
      · exact Or.inr ⟨by rw [a]; decide, Or.inr (Or.inl h)⟩
      · exact Or.inr ⟨by rw [a]; decide, Or.inr (Or.inr h)⟩
    obtain ⟨T, W, A, c, R, n, f, d, rn, fsN, rcN, own, lW, K, V, N, nx, ws, fo, pr, rs, fs, rc, mh, ins, row, hl, HC, HM, hin, rfl, rfl⟩ := I
    unfold wpX_mergePhase
    refine hX _ (fun u' hu => ?_)
    have g := G u' hu
    obtain ⟨tT', wS', rL', sg', rC', gR', hd', lW', lv', oN', ur', cR', K', V', N', nx', ws', fo', pr', rs', fs', rc', mh'⟩ := u'
    exact Exists.intro 33 g
  · obtain ⟨la, T, W, A, c, R, f, p, rn, ur, lW, K, V, N, nx, ws, fo, pr, rs, fs, rc, mh, ins, row, hl, HC, HS, hin, rfl, rfl⟩ := I
    unfold wpX_mergePhase
    exact br_f (by decide) (Exists.intro 1 (br_f (by decide) (br_f (by decide) (Exists.intro 2 (br_f (by decide) (br_t rfl (br_f (by decide) (nm_e (br_f (by decide) (br_f (by decide) ⟨rfl, I'⟩))))))))))
end
section
/-! read, readFrom, rewind. -/
theorem py_78 {yT yW yA yg yc yl yo yL : Int32} {K V N ins row hl : Nat → Int32} {post : Int32 → SY → Prop} {J : Int32 → Int32 → Prop} {c i : Nat} {x : Int32} {P : Nat → Prop} (hc : c ≤ 64) (hi : i < c) (hI : ps_mi (ps_L K) (fun y => y < i ∧ P y) x) (p : P i)
    (hJ : ∀ x', ps_mi (ps_L K) (fun y => y < i + 1 ∧ P y) x' → J x' (nI (i + 1))) : wY_read_78 post J x (nI i) 1 yT yW yA yg yc yl yo yL K V N ins row hl := by
  have hT := ps_L_T K
  have ei : (nI i).toNatClampNeg = i := nI_clamp (by omega)
  have ii : vp_in (nI i) 64 := vp_in_nI (by omega) (by decide)
  refine br_f (by decide) ?_
  rcases hI with ⟨ex, no⟩ | ⟨b, eb, pb, mb⟩
  · subst ex
    exact br_t ps_n1 (nm_r (nI_1 i) (hJ _ (ps_mi_n p (fun y hy py => absurd ⟨hy, py⟩ (no y)))))
  · subst eb
    have bi := pb.1
    have e2 : (nI b).toNatClampNeg = b := nI_clamp (by omega)
    refine br_f (nI_pos (by omega)) (And.intro ii (And.intro (vp_in_nI (by omega) (by decide)) (ps_if (d := (K b).toInt ≤ (K i).toInt) (by rw [ei, e2]; exact ps_kle _ _) (fun s => ?_) (fun s => ?_))))
    · exact nm_r (nI_1 i) (hJ _ (ps_mi_k pb.2 pb.1 mb (by unfold ps_L; omega)))
    · have a : ps_L K i b := by unfold ps_L; omega
      refine nm_r (nI_1 i) (hJ _ (ps_mi_n p (fun y hy py => ?_)))
      rcases mb y ⟨hy, py⟩ with g | g
      · rw [g]; exact a
      · exact hT.2.1 _ _ _ a g
theorem py_rdl {yT yW yA yg yl yo : Int32} {K V N ins row hl : Nat → Int32} {post : Int32 → SY → Prop} {c : Nat} {la : Int32} (hc : c ≤ 64) (hla : la = -1 ∨ ∃ l, l < c ∧ la = nI l)
    (h3 : (∀ y, ¬ ps_aft K c la y) → post 3 (yT, yW, yA, yg, nI c, yl, yo, la, K, V, N, ins, row, hl)) (h0 : ∀ b, b < c → ps_mi (ps_L K) (ps_aft K c la) (nI b) → post 0 (yT, yW, yA, yg, nI c, yl, yo, nI b, K, V, N, ins, row, hl)) :
    ∀ m i x, i ≤ c → c - i < m → ps_mi (ps_L K) (fun y => y < i ∧ (la = -1 ∨ ∃ l, l < c ∧ la = nI l ∧ ps_L K l y)) x → wY_read_14 post yT yW yA yg (nI c) yl yo la K V N ins row hl m x (nI i) := by
  intro m
  induction m with
  | zero => intro i x _ h; omega
  | succ m ih =>
    intro i x hi hm hI
    refine ps_if (d := c ≤ i) (nI_leI (by omega) (by omega)) (fun q => ?_) (fun q => ?_)
    · have e : i = c := by omega
      rw [e] at hI
      rcases hI with ⟨ex, no⟩ | ⟨b, eb, pb, mb⟩
      · rw [ex]
        exact br_f (by decide) (h3 no)
      · rw [eb]
        exact br_t (nI_pos' (by have := pb.1; omega)) (h0 b pb.1 (Or.inr ⟨b, rfl, pb, mb⟩))
    · have ic : i < c := by omega
      have ei : (nI i).toNatClampNeg = i := nI_clamp (by omega)
      have ii : vp_in (nI i) 64 := vp_in_nI (by omega) (by decide)
      have yes : (la = -1 ∨ ∃ l, l < c ∧ la = nI l ∧ ps_L K l i) → wY_read_73 post (wY_read_14 post yT yW yA yg (nI c) yl yo la K V N ins row hl m) x (nI i) yT yW yA yg (nI c) yl yo la K V N ins row hl := by
        intro p
        unfold wY_read_73
        exact py_78 hc ic hI p (fun x' h' => ih (i + 1) x' (by omega) (by omega) h')
      have no : ¬ (la = -1 ∨ ∃ l, l < c ∧ la = nI l ∧ ps_L K l i) → wY_read_77 post (wY_read_14 post yT yW yA yg (nI c) yl yo la K V N ins row hl m) x (nI i) yT yW yA yg (nI c) yl yo la K V N ins row hl := by
        intro p
        unfold wY_read_77
        exact br_t rfl (nm_r (nI_1 i) (ih (i + 1) x (by omega) (by omega) (ps_mi_s hI p)))
      rcases hla with el | ⟨l, lc, el⟩
      · have g : la < 0 := by rw [el]; decide
        exact br_t g (yes (Or.inl el))
      · subst el
        have e2 : (nI l).toNatClampNeg = l := nI_clamp (by omega)
        have il : vp_in (nI l) 64 := vp_in_nI (by omega) (by decide)
        have only : ¬ ps_L K l i → ¬ (nI l = -1 ∨ ∃ l', l' < c ∧ nI l = nI l' ∧ ps_L K l' i) := by
          intro n z
          rcases z with z | ⟨l', l'c, e', h'⟩
          · exact ps_ne (by omega) z
          · have e := ps_inj (by omega) (by omega) e'
            rw [← e] at h'
            exact n h'
        refine br_f (nI_pos (by omega)) (And.intro ii (And.intro il (ps_if (d := (K l).toInt < (K i).toInt) (by rw [ei, e2]; exact ps_klt _ _) (fun s => yes (Or.inr ⟨l, lc, rfl, Or.inl s⟩)) (fun s => ?_))))
        refine And.intro ii (And.intro il (ps_if (d := (K i).toInt = (K l).toInt) (by rw [ei, e2]; exact ps_keq _ _) (fun t => ?_) (fun t => no (only (by unfold ps_L; omega)))))
        exact ps_if (d := i ≤ l) (nI_leI (by omega) (by omega)) (fun w => no (only (by unfold ps_L; omega))) (fun w => yes (Or.inr ⟨l, lc, rfl, Or.inr ⟨by omega, by omega⟩⟩))
theorem ps_step2 {u : SX} {v : SY} (I : ps_RS u v) : ∃ (r : Int32) (u' : SX) (v' : SY), (∀ post : Int32 → SX → Prop, post r u' → wpX_read post u) ∧ (∀ post : Int32 → SY → Prop, post r v' → wpY_read post v) ∧
    ((r = 0 ∧ ∃ l, l < 64 ∧ ps_RSl (nI l) u' v') ∨ (r = 3 ∧ ps_RS u' v')) := by
  have I' := I
  obtain ⟨la, T, W, A, c, R, f, p, rn, ur, lW, K, V, N, nx, ws, fo, pr, rs, fs, rc, mh, ins, row, hl, HC, HS, hin, rfl, rfl⟩ := I
  have hh := ps_hN HC
  obtain ⟨hf, hp, hfs, hrc, hrs, hnx, hla, hur⟩ := HS
  have hT := ps_L_T K
  have st : ps_mi (ps_L K) (fun y => y < 0 ∧ (la = -1 ∨ ∃ l, l < c ∧ la = nI l ∧ ps_L K l y)) (-1) := ps_mi_0 (fun y a => absurd a.1 (Nat.not_lt_zero y))
  rcases hur with ⟨eu, no⟩ | ⟨b, eb, pb, mb⟩
  · subst eu
    refine ⟨3, _, _, fun post hpo => br_t rfl (br_t rfl hpo), fun post hpo => br_t rfl (Exists.intro (c + 1) (py_rdl hh.1 hla (fun _ => hpo) (fun b bc hb => ?_) (c + 1) 0 (-1) (by omega) (by omega) st)), Or.inr ⟨rfl, I'⟩⟩
    exact absurd (ps_mi_u hT hb (Or.inl ⟨rfl, no⟩)) (ps_ne (by omega))
  · subst eb
    have bc := pb.1
    have e2 : (nI b).toNatClampNeg = b := nI_clamp (by omega)
    refine ⟨0, (nI T, nI W, nI A, 2, nI c, nI R, nI 0, lW, 0, nI f, nx b, nI b, K, V, N, nx, ws, fo, pr, rs, fs, rc, mh), (nI T, nI W, nI A, 2, nI c, 0, nI f, nI b, K, V, N, ins, row, hl), fun post hpo => ?_, fun post hpo => ?_, Or.inl ⟨rfl, b, by omega, ?_⟩⟩
    · exact br_t rfl (br_f (ps_ne (by omega)) (And.intro (vp_in_nI (by omega) (by decide)) (nm_r (e' := nx b) (by rw [e2]) hpo)))
    · refine br_t rfl (Exists.intro (c + 1) (py_rdl hh.1 hla (fun z => absurd pb (z b)) (fun b' bc' hb => ?_) (c + 1) 0 (-1) (by omega) (by omega) st))
      have e : nI b' = nI b := ps_mi_u hT hb (Or.inr ⟨b, rfl, pb, mb⟩)
      rw [e]; exact hpo
    · refine ⟨T, W, A, c, R, f, p, rn, nx b, lW, K, V, N, nx, ws, fo, pr, rs, fs, rc, mh, ins, row, hl, HC, ⟨hf, hp, hfs, hrc, hrs, hnx, Or.inr ⟨b, bc, rfl⟩, ?_⟩, hin, rfl, rfl⟩
      refine ps_mi_c (fun y => ⟨fun z => ⟨z.1, Or.inr ⟨b, bc, rfl, z.2⟩⟩, fun z => ⟨z.1, ?_⟩⟩) (hnx b bc)
      rcases z.2 with w | ⟨l, lc, el, hl'⟩
      · exact absurd w (ps_ne (by omega))
      · have e := ps_inj (by omega) (by omega) el
        rw [e]; exact hl'
theorem i_vc_read {k : Nat} {u : SX} {v : SY} (I : i_Rel k u v) (hk : k + 3 ≤ 1539) : wpX_read (fun r u' => wpY_read (fun r' v' => r' = r ∧ i_Rel (k + 3) u' v') v) u := by
  have I' := I
  rcases I with I | I | I
  · obtain ⟨T, W, A, c, R, h, rn, w, wr, lW, yl, yo, K, V, N, nx, ws, fo, pr, rs, fs, rc, mh, ins, row, hl, HC, HF, rfl, rfl⟩ := I
    exact br_f (by decide) (br_f (by decide) ⟨rfl, I'⟩)
  · obtain ⟨e, T, W, A, c, R, n, f, d, rn, fsN, rcN, own, lW, K, V, N, nx, ws, fo, pr, rs, fs, rc, mh, ins, row, hl, HC, HM, hin, rfl, rfl⟩ := I
    exact br_f (by decide) (br_f (by decide) ⟨rfl, I'⟩)
  · obtain ⟨r, u', v', hX, hY, h⟩ := ps_step2 I
    refine hX _ (hY _ ⟨rfl, Or.inr (Or.inr ?_)⟩)
    rcases h with ⟨_, l, _, h⟩ | ⟨_, h⟩
    · exact ⟨_, h⟩
    · exact h
theorem i_vc_rewind {k : Nat} {u : SX} {v : SY} (I : i_Rel k u v) (hk : k + 3 ≤ 1539) : wpX_rewind (fun r u' => wpY_rewind (fun r' v' => r' = r ∧ i_Rel (k + 3) u' v') v) u := by
  have I' := I
  rcases I with I | I | I
  · obtain ⟨T, W, A, c, R, h, rn, w, wr, lW, yl, yo, K, V, N, nx, ws, fo, pr, rs, fs, rc, mh, ins, row, hl, HC, HF, rfl, rfl⟩ := I
    exact br_f (by decide) (br_f (by decide) ⟨rfl, I'⟩)
  · obtain ⟨e, T, W, A, c, R, n, f, d, rn, fsN, rcN, own, lW, K, V, N, nx, ws, fo, pr, rs, fs, rc, mh, ins, row, hl, HC, HM, hin, rfl, rfl⟩ := I
    exact br_f (by decide) (br_f (by decide) ⟨rfl, I'⟩)
  · obtain ⟨la, T, W, A, c, R, f, p, rn, ur, lW, K, V, N, nx, ws, fo, pr, rs, fs, rc, mh, ins, row, hl, HC, HS, hin, rfl, rfl⟩ := I
    have t4 := ps_T4 HC.1
    obtain ⟨hf, hp, hfs, hrc, hrs, hnx, hla, hur⟩ := HS
    refine br_t rfl ?_
    unfold wpX_goToStart
    refine px_fro (by omega) hfs hp (br_t rfl ⟨rfl, Or.inr (Or.inr ?_)⟩)
    refine ⟨-1, T, W, A, c, R, f, p, rn, rs (f * 32 + p), lW, K, V, N, nx, ws, fo, pr, rs, fs, rc, mh, ins, row, hl, HC, ⟨hf, hp, hfs, hrc, hrs, hnx, Or.inl rfl, ?_⟩, hin, rfl, rfl⟩
    exact ps_mi_c (fun y => ⟨fun z => ⟨z, Or.inl rfl⟩, fun z => z.1⟩) hrs
/-! readFrom: at most 65 reads on either side, in step -/
def px_RF (post : Int32 → SX → Prop) (x1 : Int32) (n : Nat) (r x : Int32) (u : SX) : Prop := match u with
  | (tT, wS, rL, sg, rC, gR, hd, lW, lv, oN, ur, cR, K, V, N, nx, ws, fo, pr, rs, fs, rc, mh) => wX_readFrom_7 post x1 n r x tT wS rL sg rC gR hd lW lv oN ur cR K V N nx ws fo pr rs fs rc mh
def py_RF (post : Int32 → SY → Prop) (x1 : Int32) (n : Nat) (r x : Int32) (v : SY) : Prop := match v with
  | (yT, yW, yA, yg, yc, yl, yo, yL, K, V, N, ins, row, hl) => wY_readFrom_4 post x1 n r x yT yW yA yg yc yl yo yL K V N ins row hl
/-- what the reference asks behind its read number i + 1 -/
def py_RB (post : Int32 → SY → Prop) (x1 : Int32) (n : Nat) (r x : Int32) (v : SY) : Prop := match v with
  | (yT, yW, yA, yg, yc, yl, yo, yL, K, V, N, ins, row, hl) => ((r = 0 → ((yL < 0 → (∀ x' : Int32, x' = x + 1 → wY_readFrom_4 post x1 n r x' yT yW yA yg yc yl yo yL K V N ins row hl)) ∧ (¬ yL < 0 → (vp_in yL 64 ∧ ((K yL.toNatClampNeg < x1 → (∀ x' : Int32, x' = x + 1 → wY_readFrom_4 post x1 n r x' yT yW yA yg yc yl yo yL K V N ins row hl)) ∧ (¬ K yL.toNatClampNeg < x1 → post r (yT, yW, yA, yg, yc, yl, yo, yL, K, V, N, ins, row, hl))))))) ∧ (¬ r = 0 → post r (yT, yW, yA, yg, yc, yl, yo, yL, K, V, N, ins, row, hl)))
theorem ps_rfl {k : Nat} (v0 : SY) (x1 : Int32) : ∀ (m i : Nat) (r : Int32) (u : SX) (v : SY), 64 - i < m → i ≤ 64 → ((r = 0 ∧ ∃ l, l < 64 ∧ ps_RSl (nI l) u v) ∨ (¬ r = 0 ∧ i_Rel (k + 3) u v)) →
    (∀ post : Int32 → SY → Prop, py_RB post x1 (65 - i) r (nI i) v → wpY_readFrom post v0 x1) → px_RF (fun r u' => wpY_readFrom (fun r' v' => r' = r ∧ i_Rel (k + 3) u' v') v0 x1) x1 m r (nI i) u := by
  intro m
  induction m with
  | zero => intro i r u v h; omega
  | succ m ih =>
    intro i r u v hm hi Q H
    rcases Q with ⟨r0, l, l64, J⟩ | ⟨r0, rel⟩
    · have rel : i_Rel (k + 3) u v := Or.inr (Or.inr ⟨_, J⟩)
      have ef : 65 - i = (64 - i) + 1 := by omega
      have ef2 : 65 - (i + 1) = 64 - i := by omega
      have o1 : ¬ 64 ≤ i → 64 - (i + 1) < m := fun z => by omega
      have o2 : ¬ 64 ≤ i → i + 1 ≤ 64 := fun z => by omega
      have o3 : ¬ 64 ≤ i → i + 1 < 65 := fun z => by omega
      have S := ps_step2 ⟨_, J⟩
      obtain ⟨T, W, A, c, R, f, p, rn, ur, lW, K, V, N, nx, ws, fo, pr, rs, fs, rc, mh, ins, row, hl, HC, HS, hin, rfl, rfl⟩ := J
      have e2 : (nI l).toNatClampNeg = l := nI_clamp (by omega)
      have il : vp_in (nI l) 64 := vp_in_nI l64 (by decide)
      have npos : ¬ nI l < 0 := nI_pos (by omega)
      by_cases i64 : 64 ≤ i
      · refine br_t (nI_le (a := 64) i64 (by omega)) (H _ ?_)
        have ei : i = 64 := by omega
        subst ei
        refine br_t r0 (br_f npos (And.intro il (br_c (fun _ => nm_r (nI_1 64) (br_t (nI_le (a := 65) (b := 65) (by omega) (by omega)) ⟨rfl, rel⟩)) (fun _ => ⟨rfl, rel⟩))))
      · refine br_f (nI_ge (b := 64) (by omega) (by decide)) (br_t r0 (And.intro il ?_))
        have kk : x1 ≤ K (nI l).toNatClampNeg ↔ ¬ K (nI l).toNatClampNeg < x1 := Int32.not_lt.symm
        refine ps_if kk (fun z => ?_) (fun z => ?_)
        · exact H _ (br_t r0 (br_f npos (And.intro il (br_f z ⟨rfl, rel⟩))))
        · have lt : K (nI l).toNatClampNeg < x1 := Classical.not_not.mp z
          obtain ⟨r', u', v', hX, hY, h⟩ := S
          refine hX _ ?_
          have R := ih (i + 1) r' u' v' (o1 i64) (o2 i64) (by
            rcases h with ⟨a, h⟩ | ⟨a, h⟩
            · exact Or.inl ⟨a, h⟩
            · exact Or.inr ⟨by rw [a]; decide, Or.inr (Or.inr h)⟩) (fun post hp => by
              refine H post (br_t r0 (br_f npos (And.intro il (br_t lt (nm_r (nI_1 i) ?_)))))
              rw [ef]
              refine br_f (nI_ge (b := 65) (o3 i64) (by decide)) (hY _ ?_)
              rw [ef2] at hp
              obtain ⟨yT', yW', yA', yg', yc', yl', yo', yL', JK', JV', JN', ins', row', hl'⟩ := v'
              exact hp)
          obtain ⟨tT', wS', rL', sg', rC', gR', hd', lW', lv', oN', ur', cR', K', V', N', nx', ws', fo', pr', rs', fs', rc', mh'⟩ := u'
          exact nm_r (nI_1 i) R
    · obtain ⟨tT, wS, rL, sg, rC, gR, hd, lW, lv, oN, ur, cR, K, V, N, nx, ws, fo, pr, rs, fs, rc, mh⟩ := u
      obtain ⟨yT, yW, yA, yg, yc, yl, yo, yL, JK, JV, JN, ins, row, hl⟩ := v
      have P : wpY_readFrom (fun r' v' => r' = r ∧ i_Rel (k + 3) (tT, wS, rL, sg, rC, gR, hd, lW, lv, oN, ur, cR, K, V, N, nx, ws, fo, pr, rs, fs, rc, mh) v') v0 x1 := H _ (br_f r0 ⟨rfl, rel⟩)
      exact br_c (fun _ => P) (fun _ => br_f r0 P)
theorem i_vc_readFrom {k : Nat} {u : SX} {v : SY} (I : i_Rel k u v) (hk : k + 3 ≤ 1539) (v1 : Int32) : wpX_readFrom (fun r u' => wpY_readFrom (fun r' v' => r' = r ∧ i_Rel (k + 3) u' v') v v1) u v1 := by
  have I' := I
  rcases I with I | I | I
  · obtain ⟨T, W, A, c, R, h, rn, w, wr, lW, yl, yo, K, V, N, nx, ws, fo, pr, rs, fs, rc, mh, ins, row, hl, HC, HF, rfl, rfl⟩ := I
    unfold wpX_readFrom
    exact br_f (by decide) (Exists.intro 1 (br_f (by decide) (br_f (by decide) (Exists.intro 1 (br_f (by decide) (br_f (by decide) (br_f (by decide) ⟨rfl, I'⟩)))))))
  · obtain ⟨e, T, W, A, c, R, n, f, d, rn, fsN, rcN, own, lW, K, V, N, nx, ws, fo, pr, rs, fs, rc, mh, ins, row, hl, HC, HM, hin, rfl, rfl⟩ := I
    unfold wpX_readFrom
    exact br_f (by decide) (Exists.intro 1 (br_f (by decide) (br_f (by decide) (Exists.intro 1 (br_f (by decide) (br_f (by decide) (br_f (by decide) ⟨rfl, I'⟩)))))))
  · have S := ps_step2 I
    obtain ⟨r, u', v', hX, hY, h⟩ := S
    have H : ∀ post : Int32 → SY → Prop, py_RB post v1 (65 - 0) r (nI 0) v' → wpY_readFrom post v v1 := by
      intro post hp
      obtain ⟨la, T, W, A, c, R, f, p, rn, ur, lW, K, V, N, nx, ws, fo, pr, rs, fs, rc, mh, ins, row, hl, HC, HS, hin, rfl, rfl⟩ := I
      refine Exists.intro 66 (br_f (by decide) (hY _ ?_))
      obtain ⟨yT', yW', yA', yg', yc', yl', yo', yL', JK', JV', JN', ins', row', hl'⟩ := v'
      exact hp
    have G : px_RF (fun r u' => wpY_readFrom (fun r' v' => r' = r ∧ i_Rel (k + 3) u' v') v v1) v1 65 r (nI 0) u' := by
      refine ps_rfl v v1 65 0 r u' v' (by omega) (by omega) ?_ H
      rcases h with ⟨a, h⟩ | ⟨a, h⟩
      · exact Or.inl ⟨a, h⟩
      · exact Or.inr ⟨by rw [a]; decide, Or.inr (Or.inr h)⟩
    obtain ⟨la, T, W, A, c, R, f, p, rn, ur, lW, K, V, N, nx, ws, fo, pr, rs, fs, rc, mh, ins, row, hl, HC, HS, hin, rfl, rfl⟩ := I
    unfold wpX_readFrom
    refine hX _ ?_
    obtain ⟨tT', wS', rL', sg', rC', gR', hd', lW', lv', oN', ur', cR', K', V', N', nx', ws', fo', pr', rs', fs', rc', mh'⟩ := u'
    exact Exists.intro 65 G
end
