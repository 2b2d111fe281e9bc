/-! replacement selection. wr: the records that have left the workspace. -/
def ps_Feed (c : Nat) (L : Nat → Nat → Prop) (rn : Nat → Nat) (wr : Nat → Prop) (nx fo : Nat → Int32) (lw : Int32) : Prop :=
  (∀ x, wr x → x < c) ∧
  ((lw = -1 ∧ (∀ x, ¬ wr x) ∧ (∀ x, x < c → rn x = 1)) ∨
   (∃ l, lw = nI l ∧ wr l ∧ (∀ x, wr x → x = l ∨ ps_R rn L x l)
      ∧ (∀ x, x < c → ¬ wr x → ps_R rn L l x ∧ rn x ≤ rn l + 1)
      ∧ (∀ r, 1 ≤ r → r ≤ rn l → ps_mi L (fun x => wr x ∧ rn x = r) (fo (r - 1)))
      ∧ (∀ x, wr x → ps_mi L (fun y => wr y ∧ rn y = rn x ∧ L x y) (nx x))))
theorem ps_Feed0 (L : Nat → Nat → Prop) (rn : Nat → Nat) (nx fo : Nat → Int32) : ps_Feed 0 L rn (fun _ => False) nx fo (-1) :=
  ⟨fun _ h => h.elim, Or.inl ⟨rfl, fun _ h => h, fun x h => absurd h (Nat.not_lt_zero x)⟩⟩
/-- the first record of all leaves -/
theorem ps_wo0 {c : Nat} {L : Nat → Nat → Prop} {rn : Nat → Nat} {wr : Nat → Prop} {nx fo : Nat → Int32} {lw : Int32} (hL : ps_T L) (F : ps_Feed c L rn wr nx fo lw) (e : lw = -1) (hc : c < 2 ^ 31) {f : Nat} (hf : f < c) (hm : ∀ y, y < c → ¬ wr y → y = f ∨ ps_R rn L f y) :
    rn f = 1 ∧ ps_Feed c L rn (fun x => wr x ∨ x = f) (upd nx f (-1)) (upd fo (rn f - 1) (nI f)) (nI f) := by
  obtain ⟨wc, h⟩ := F
  rcases h with ⟨_, n, o⟩ | ⟨l, el, hl, _⟩
  · have r1 := o f hf
    refine ⟨r1, ?_, Or.inr ⟨f, rfl, Or.inr rfl, ?_, ?_, ?_, ?_⟩⟩
    · intro x hx
      rcases hx with hx | hx
      · exact wc x hx
      · omega
    · intro x hx
      rcases hx with hx | hx
      · exact absurd hx (n x)
      · exact Or.inl hx
    · intro x hx hw
      have nf : x ≠ f := fun z => hw (Or.inr z)
      rcases hm x hx (n x) with q | q
      · exact absurd q nf
      · exact ⟨q, by rw [o x hx]; omega⟩
    · intro r h1 h2
      have er : r = rn f := by omega
      rw [er]
      have eu : upd fo (rn f - 1) (nI f) (rn f - 1) = nI f := if_pos rfl
      rw [eu]
      refine ps_mi_1 f ⟨Or.inr rfl, rfl⟩ ?_
      intro y hy
      rcases hy.1 with q | q
      · exact absurd q (n y)
      · exact Or.inl q
    · intro x hx
      rcases hx with hx | hx
      · exact absurd hx (n x)
      · subst hx
        have eu : upd nx x (-1) x = -1 := if_pos rfl
        rw [eu]
        refine ps_mi_0 ?_
        intro y hy
        rcases hy.1 with q | q
        · exact n y q
        · rw [q] at hy; exact hL.1 _ hy.2.2
  · exact absurd (el.symm.trans e) (ps_ne (by have := wc l hl; omega))
/-- the first record of the next run leaves -/
theorem ps_woA {c : Nat} {L : Nat → Nat → Prop} {rn : Nat → Nat} {wr : Nat → Prop} {nx fo : Nat → Int32} {l : Nat} (hL : ps_T L) (F : ps_Feed c L rn wr nx fo (nI l)) (hc : c < 2 ^ 31) (hl31 : l < 2 ^ 31) {f : Nat} (hf : f < c) (hw : ¬ wr f) (hm : ∀ y, y < c → ¬ wr y → y = f ∨ ps_R rn L f y) (hr : ¬ rn l = rn f) :
    rn f = rn l + 1 ∧ ps_Feed c L rn (fun x => wr x ∨ x = f) (upd nx f (-1)) (upd fo (rn f - 1) (nI f)) (nI f) := by
  obtain ⟨wc, h⟩ := F
  rcases h with ⟨e, _⟩ | ⟨l', el, hl, hle, hin, hfo, hnx⟩
  · exact absurd e (ps_ne hl31)
  · have e : l = l' := ps_inj hl31 (by have := wc l' hl; omega) el
    subst e
    have hlf := hin f hf hw
    have hge := ps_R_le hlf.1
    have er : rn f = rn l + 1 := by omega
    have hmax : ∀ x, wr x → rn x ≤ rn l := by
      intro x hx
      rcases hle x hx with q | q
      · rw [q]; exact Nat.le_refl _
      · exact ps_R_le q
    refine ⟨er, ?_, Or.inr ⟨f, rfl, Or.inr rfl, ?_, ?_, ?_, ?_⟩⟩
    · intro x hx
      rcases hx with hx | hx
      · exact wc x hx
      · omega
    · intro x hx
      rcases hx with hx | hx
      · right; left; have := hmax x hx; omega
      · exact Or.inl hx
    · intro x hx hw'
      have nf : x ≠ f := fun z => hw' (Or.inr z)
      have nw : ¬ wr x := fun z => hw' (Or.inl z)
      rcases hm x hx nw with q | q
      · exact absurd q nf
      · exact ⟨q, by have := (hin x hx nw).2; omega⟩
    · intro r h1 h2
      by_cases e : r = rn f
      · subst e
        have eu : upd fo (rn f - 1) (nI f) (rn f - 1) = nI f := if_pos rfl
        rw [eu]
        refine ps_mi_1 f ⟨Or.inr rfl, rfl⟩ ?_
        intro y hy
        rcases hy.1 with q | q
        · have := hmax y q; have := hy.2; omega
        · exact Or.inl q
      · have eu : upd fo (rn f - 1) (nI f) (r - 1) = fo (r - 1) := if_neg (by omega)
        rw [eu]
        refine ps_mi_c ?_ (hfo r h1 (by omega))
        intro y
        constructor
        · intro a; exact ⟨Or.inl a.1, a.2⟩
        · intro a
          rcases a.1 with q | q
          · exact ⟨q, a.2⟩
          · exfalso; rw [q] at a; exact e a.2.symm
    · intro x hx
      rcases hx with hx | hx
      · have nf : x ≠ f := fun z => hw (z ▸ hx)
        have eu : upd nx f (-1) x = nx x := if_neg nf
        rw [eu]
        refine ps_mi_c ?_ (hnx x hx)
        intro y
        constructor
        · intro a; exact ⟨Or.inl a.1, a.2⟩
        · intro a
          rcases a.1 with q | q
          · exact ⟨q, a.2⟩
          · exfalso
            have := a.2.1
            rw [q] at this
            have := hmax x hx
            omega
      · subst hx
        have eu : upd nx x (-1) x = -1 := if_pos rfl
        rw [eu]
        refine ps_mi_0 ?_
        intro y hy
        rcases hy.1 with q | q
        · have := hmax y q; have := hy.2.1; omega
        · rw [q] at hy; exact hL.1 _ hy.2.2
/-- a further record of the same run leaves -/
theorem ps_woB {c : Nat} {L : Nat → Nat → Prop} {rn : Nat → Nat} {wr : Nat → Prop} {nx fo : Nat → Int32} {l : Nat} (hL : ps_T L) (F : ps_Feed c L rn wr nx fo (nI l)) (hc : c < 2 ^ 31) (hl31 : l < 2 ^ 31) {f : Nat} (hf : f < c) (hw : ¬ wr f) (hm : ∀ y, y < c → ¬ wr y → y = f ∨ ps_R rn L f y) (hr : rn l = rn f) :
    ps_Feed c L rn (fun x => wr x ∨ x = f) (upd (upd nx l (nI f)) f (-1)) fo (nI f) := by
  obtain ⟨wc, h⟩ := F
  rcases h with ⟨e, _⟩ | ⟨l', el, hl, hle, hin, hfo, hnx⟩
  · exact absurd e (ps_ne hl31)
  · have e : l = l' := ps_inj hl31 (by have := wc l' hl; omega) el
    subst e
    have hR := ps_R_T (rn := rn) hL
    have hlf := (hin f hf hw).1
    have hLf : L l f := ps_R_L hlf hr
    refine ⟨?_, Or.inr ⟨f, rfl, Or.inr rfl, ?_, ?_, ?_, ?_⟩⟩
    · intro x hx
      rcases hx with hx | hx
      · exact wc x hx
      · omega
    · intro x hx
      rcases hx with hx | hx
      · right
        rcases hle x hx with q | q
        · rw [q]; exact hlf
        · exact hR.2.1 _ _ _ q hlf
      · exact Or.inl hx
    · intro x hx hw'
      have nf : x ≠ f := fun z => hw' (Or.inr z)
      have nw : ¬ wr x := fun z => hw' (Or.inl z)
      rcases hm x hx nw with q | q
      · exact absurd q nf
      · exact ⟨q, by have := (hin x hx nw).2; omega⟩
    · intro r h1 h2
      have h := hfo r h1 (by omega)
      by_cases e : r = rn f
      · subst e
        refine ps_mi_add hL h (l := l) (f := f) ⟨hl, hr⟩ hLf ?_
        intro y
        constructor
        · intro a
          rcases a.1 with q | q
          · exact Or.inl ⟨q, a.2⟩
          · exact Or.inr q
        · intro a
          rcases a with a | a
          · exact ⟨Or.inl a.1, a.2⟩
          · exact ⟨Or.inr a, by rw [a]⟩
      · refine ps_mi_c ?_ h
        intro y
        constructor
        · intro a; exact ⟨Or.inl a.1, a.2⟩
        · intro a
          rcases a.1 with q | q
          · exact ⟨q, a.2⟩
          · exfalso; rw [q] at a; exact e a.2.symm
    · intro x hx
      rcases hx with hx | hx
      · have nf : x ≠ f := fun z => hw (z ▸ hx)
        have eu : upd (upd nx l (nI f)) f (-1) x = upd nx l (nI f) x := if_neg nf
        rw [eu]
        by_cases xl : x = l
        · subst xl
          have eu2 : upd nx x (nI f) x = nI f := if_pos rfl
          rw [eu2]
          refine ps_mi_1 f ⟨Or.inr rfl, hr.symm, hLf⟩ ?_
          intro y hy
          rcases hy.1 with q | q
          · exfalso
            rcases hle y q with z | z
            · rw [z] at hy; exact hL.1 _ hy.2.2
            · exact ps_as hL (ps_R_L z hy.2.1) hy.2.2
          · exact Or.inl q
        · have eu2 : upd nx l (nI f) x = nx x := if_neg xl
          rw [eu2]
          by_cases e : rn x = rn f
          · have hxl : L x l := by
              rcases hle x hx with q | q
              · exact absurd q xl
              · exact ps_R_L q (by omega)
            refine ps_mi_add hL (hnx x hx) (l := l) (f := f) ⟨hl, by omega, hxl⟩ hLf ?_
            intro y
            constructor
            · intro a
              rcases a.1 with q | q
              · exact Or.inl ⟨q, a.2⟩
              · exact Or.inr q
            · intro a
              rcases a with a | a
              · exact ⟨Or.inl a.1, a.2⟩
              · rw [a]; exact ⟨Or.inr rfl, e.symm, hL.2.1 _ _ _ hxl hLf⟩
          · refine ps_mi_c ?_ (hnx x hx)
            intro y
            constructor
            · intro a; exact ⟨Or.inl a.1, a.2⟩
            · intro a
              rcases a.1 with q | q
              · exact ⟨q, a.2⟩
              · exfalso; rw [q] at a; exact e a.2.1.symm
      · subst hx
        have eu : upd (upd nx l (nI x)) x (-1) x = -1 := if_pos rfl
        rw [eu]
        refine ps_mi_0 ?_
        intro y hy
        rcases hy.1 with q | q
        · rcases hle y q with z | z
          · rw [z] at hy; exact ps_as hL hLf hy.2.2
          · exact ps_as hL (hL.2.1 _ _ _ (ps_R_L z (by have := hy.2.1; omega)) hLf) hy.2.2
        · rw [q] at hy; exact hL.1 _ hy.2.2
/-- the order and the run numbers may change where there are no records -/
theorem ps_FeedC {c : Nat} {L L' : Nat → Nat → Prop} {rn rn' : Nat → Nat} {wr : Nat → Prop} {nx fo : Nat → Int32} {lw : Int32}
    (eL : ∀ x y, x < c → y < c → (L' x y ↔ L x y)) (er : ∀ x, x < c → rn' x = rn x) (F : ps_Feed c L rn wr nx fo lw) :
    ps_Feed c L' rn' wr nx fo lw := by
  obtain ⟨wc, h⟩ := F
  have tR : ∀ x y, x < c → y < c → ps_R rn L x y → ps_R rn' L' x y := by
    intro x y hx hy h
    rcases h with h | h
    · left; rw [er x hx, er y hy]; exact h
    · right; rw [er x hx, er y hy]; exact ⟨h.1, (eL x y hx hy).2 h.2⟩
  refine ⟨wc, ?_⟩
  rcases h with ⟨e, n, o⟩ | ⟨l, el, hl, hle, hin, hfo, hnx⟩
  · exact Or.inl ⟨e, n, fun x hx => by rw [er x hx]; exact o x hx⟩
  · have lc := wc l hl
    refine Or.inr ⟨l, el, hl, ?_, ?_, ?_, ?_⟩
    · intro x hx
      rcases hle x hx with q | q
      · exact Or.inl q
      · exact Or.inr (tR x l (wc x hx) lc q)
    · intro x hx hw
      have q := hin x hx hw
      exact ⟨tR l x lc hx q.1, by rw [er x hx, er l lc]; exact q.2⟩
    · intro r a b
      rw [er l lc] at b
      refine ps_mi_l ?_ ?_ (hfo r a b)
      · intro y
        constructor
        · intro h; exact ⟨h.1, by rw [er y (wc y h.1)]; exact h.2⟩
        · intro h; refine ⟨h.1, ?_⟩; have := h.2; rw [er y (wc y h.1)] at this; exact this
      · intro x y hx hy h
        exact (eL x y (wc x hx.1) (wc y hy.1)).2 h
    · intro x hx
      refine ps_mi_l ?_ ?_ (hnx x hx)
      · intro y
        constructor
        · intro h
          exact ⟨h.1, by rw [er y (wc y h.1), er x (wc x hx)]; exact h.2.1, (eL x y (wc x hx) (wc y h.1)).2 h.2.2⟩
        · intro h
          refine ⟨h.1, ?_, (eL x y (wc x hx) (wc y h.1)).1 h.2.2⟩
          have := h.2.1
          rw [er y (wc y h.1), er x (wc x hx)] at this
          exact this
      · intro a b ha hb h
        exact (eL a b (wc a ha.1) (wc b hb.1)).2 h
/-- a record arrives -/
theorem ps_add {c : Nat} {L : Nat → Nat → Prop} {rn : Nat → Nat} {wr : Nat → Prop} {nx fo : Nat → Int32} {lw : Int32}
    (F : ps_Feed c L rn wr nx fo lw) (h0 : lw = -1 → rn c = 1) (h1 : ∀ l, lw = nI l → wr l → ps_R rn L l c ∧ rn c ≤ rn l + 1) :
    ps_Feed (c + 1) L rn wr nx fo lw := by
  obtain ⟨wc, h⟩ := F
  refine ⟨fun x hx => Nat.lt_succ_of_lt (wc x hx), ?_⟩
  rcases h with ⟨e, n, o⟩ | ⟨l, el, hl, hle, hin, hfo, hnx⟩
  · refine Or.inl ⟨e, n, fun x hx => ?_⟩
    by_cases xc : x = c
    · rw [xc]; exact h0 e
    · exact o x (by omega)
  · refine Or.inr ⟨l, el, hl, hle, ?_, hfo, hnx⟩
    intro x hx hw
    by_cases xc : x = c
    · rw [xc]; exact h1 l el hl
    · exact hin x (by omega) hw
/-- the cells of the workspace hold just the records that have not left -/
def ps_Ws (c h : Nat) (ws : Nat → Nat) (wr : Nat → Prop) : Prop :=
  (∀ j, j < h → ws j < c ∧ ¬ wr (ws j)) ∧ (∀ i j, i < h → j < h → ws i = ws j → i = j) ∧ (∀ x, x < c → ¬ wr x → ∃ j, j < h ∧ ws j = x)
def ps_un (f : Nat → Nat) (k x : Nat) : Nat → Nat := fun j => if j = k then x else f j
theorem ps_us {f : Nat → Nat} {k x : Nat} : ps_un f k x k = x := if_pos rfl
theorem ps_uo {f : Nat → Nat} {k x j : Nat} (h : j ≠ k) : ps_un f k x j = f j := if_neg h
theorem ps_Ws0 (ws : Nat → Nat) (wr : Nat → Prop) : ps_Ws 0 0 ws wr :=
  ⟨fun j h => absurd h (Nat.not_lt_zero j), fun i _ h => absurd h (Nat.not_lt_zero i), fun x h => absurd h (Nat.not_lt_zero x)⟩
/-- a record is added in a free cell -/
theorem ps_WsA {c h : Nat} {ws : Nat → Nat} {wr : Nat → Prop} (w : ps_Ws c h ws wr) (hc : ∀ x, wr x → x < c) : ps_Ws (c + 1) (h + 1) (ps_un ws h c) wr := by
  obtain ⟨a, i, s⟩ := w
  refine ⟨?_, ?_, ?_⟩
  · intro j hj
    by_cases e : j = h
    · rw [e, ps_us]; exact ⟨by omega, fun z => by have := hc c z; omega⟩
    · rw [ps_uo e]; have := a j (by omega); exact ⟨by omega, this.2⟩
  · intro p q hp hq e
    by_cases ep : p = h
    · by_cases eq : q = h
      · omega
      · rw [ep, ps_us, ps_uo eq] at e; have := (a q (by omega)).1; omega
    · by_cases eq : q = h
      · rw [eq, ps_us, ps_uo ep] at e; have := (a p (by omega)).1; omega
      · rw [ps_uo ep, ps_uo eq] at e; exact i p q (by omega) (by omega) e
  · intro x hx hw
    by_cases e : x = c
    · exact ⟨h, by omega, by rw [ps_us, e]⟩
    · obtain ⟨j, hj, ej⟩ := s x (by omega) hw
      exact ⟨j, by omega, by rw [ps_uo (by omega)]; exact ej⟩
/-- the record in cell b leaves, and the next one takes its cell -/
theorem ps_WsB {c h b : Nat} {ws : Nat → Nat} {wr : Nat → Prop} (w : ps_Ws c h ws wr) (hc : ∀ x, wr x → x < c) (hb : b < h) : ps_Ws (c + 1) h (ps_un ws b c) (fun x => wr x ∨ x = ws b) := by
  obtain ⟨a, i, s⟩ := w
  have bc := (a b hb).1
  refine ⟨?_, ?_, ?_⟩
  · intro j hj
    by_cases e : j = b
    · rw [e, ps_us]
      refine ⟨by omega, fun z => ?_⟩
      rcases z with z | z
      · have := hc c z; omega
      · omega
    · rw [ps_uo e]
      have := a j hj
      refine ⟨by omega, fun z => ?_⟩
      rcases z with z | z
      · exact this.2 z
      · exact e (i j b hj hb z)
  · intro p q hp hq e
    by_cases ep : p = b
    · by_cases eq : q = b
      · omega
      · rw [ep, ps_us, ps_uo eq] at e; have := (a q hq).1; omega
    · by_cases eq : q = b
      · rw [eq, ps_us, ps_uo ep] at e; have := (a p hp).1; omega
      · rw [ps_uo ep, ps_uo eq] at e; exact i p q hp hq e
  · intro x hx hw
    by_cases e : x = c
    · exact ⟨b, hb, by rw [ps_us, e]⟩
    · obtain ⟨j, hj, ej⟩ := s x (by omega) (fun z => hw (Or.inl z))
      have jb : j ≠ b := fun z => hw (Or.inr (by rw [← ej, z]))
      exact ⟨j, hj, by rw [ps_uo jb]; exact ej⟩
/-- the record in cell b leaves, and the last cell's record takes its cell -/
theorem ps_WsC {c h b : Nat} {ws : Nat → Nat} {wr : Nat → Prop} (w : ps_Ws c (h + 1) ws wr) (hb : b < h + 1) : ps_Ws c h (ps_un ws b (ws h)) (fun x => wr x ∨ x = ws b) := by
  obtain ⟨a, i, s⟩ := w
  refine ⟨?_, ?_, ?_⟩
  · intro j hj
    by_cases e : j = b
    · rw [e, ps_us]
      have := a h (by omega)
      refine ⟨this.1, fun z => ?_⟩
      rcases z with z | z
      · exact this.2 z
      · have := i h b (by omega) hb z; omega
    · rw [ps_uo e]
      have := a j (by omega)
      refine ⟨this.1, fun z => ?_⟩
      rcases z with z | z
      · exact this.2 z
      · exact e (i j b (by omega) hb z)
  · intro p q hp hq e
    by_cases ep : p = b
    · by_cases eq : q = b
      · omega
      · rw [ep, ps_us, ps_uo eq] at e; have := i h q (by omega) (by omega) e; omega
    · by_cases eq : q = b
      · rw [eq, ps_us, ps_uo ep] at e; have := i p h (by omega) (by omega) e; omega
      · rw [ps_uo ep, ps_uo eq] at e; exact i p q (by omega) (by omega) e
  · intro x hx hw
    obtain ⟨j, hj, ej⟩ := s x hx (fun z => hw (Or.inl z))
    have jb : j ≠ b := fun z => hw (Or.inr (by rw [← ej, z]))
    by_cases e : j = h
    · exact ⟨b, by omega, by rw [ps_us, ← e]; exact ej⟩
    · exact ⟨j, by omega, by rw [ps_uo jb]; exact ej⟩
/-- the run numbers: at most half of the records, and one -/
def ps_Rn (c R : Nat) (rn : Nat → Nat) : Prop :=
  (∀ x, x < c → 1 ≤ rn x ∧ rn x ≤ R) ∧ (c = 0 → R = 0) ∧ (0 < c → ∃ x, x < c ∧ rn x = R) ∧ 2 * R ≤ c + 1 ∧ (∀ i, i + 1 < c → rn i = R → 2 * R ≤ c)
theorem ps_Rn0 (rn : Nat → Nat) : ps_Rn 0 0 rn :=
  ⟨fun x h => absurd h (Nat.not_lt_zero x), fun _ => rfl, fun h => absurd h (Nat.lt_irrefl 0), by omega, fun i h => absurd h (Nat.not_lt_zero _)⟩
/-- a record of a run that is there already -/
theorem ps_RnA {c R : Nat} {rn rn' : Nat → Nat} (h : ps_Rn c R rn) (e : ∀ x, x < c → rn' x = rn x) (h0 : 1 ≤ rn' c) (h1 : rn' c ≤ R) : ps_Rn (c + 1) R rn' := by
  obtain ⟨a, z, s, b, d⟩ := h
  refine ⟨?_, by omega, ?_, by omega, ?_⟩
  · intro x hx
    by_cases xc : x = c
    · rw [xc]; exact ⟨h0, h1⟩
    · rw [e x (by omega)]; exact a x (by omega)
  · intro _
    by_cases c0 : c = 0
    · have := z c0; omega
    · obtain ⟨x, hx, ex⟩ := s (by omega)
      exact ⟨x, by omega, by rw [e x hx]; exact ex⟩
  · intro i hi _; omega
/-- the first record of all, or of the next run: two records of run R are there -/
theorem ps_RnB {c R : Nat} {rn rn' : Nat → Nat} (h : ps_Rn c R rn) (e : ∀ x, x < c → rn' x = rn x) (h1 : rn' c = R + 1) (h2 : c = 0 ∨ ∃ i j, i < c ∧ j < c ∧ i ≠ j ∧ rn i = R ∧ rn j = R) : ps_Rn (c + 1) (R + 1) rn' := by
  obtain ⟨a, z, s, b, d⟩ := h
  have hb : 2 * R ≤ c := by
    rcases h2 with h2 | ⟨i, j, hi, hj, ne, ei, ej⟩
    · have := z h2; omega
    · by_cases q : i + 1 < c
      · exact d i q ei
      · exact d j (by omega) ej
  refine ⟨?_, by omega, fun _ => ⟨c, by omega, h1⟩, by omega, ?_⟩
  · intro x hx
    by_cases xc : x = c
    · rw [xc, h1]; omega
    · rw [e x (by omega)]; have := a x (by omega); omega
  · intro i hi ei
    rw [e i (by omega)] at ei
    have := a i (by omega)
    omega
