/-! the tapes. A slot is tape * 32 + place; rc: how many runs a tape holds; fs: the place of its first. -/
def ps_live (fs rc : Nat → Nat) (s : Nat) : Prop := s < 128 ∧ (s % 32 + 32 - fs (s / 32)) % 32 < rc (s / 32)
/-- every record has a live slot as its owner; the chains are the owners' records in order -/
def ps_Own (c : Nat) (L : Nat → Nat → Prop) (own : Nat → Nat) (live : Nat → Prop) (nx rs : Nat → Int32) : Prop :=
  (∀ x, x < c → live (own x)) ∧ (∀ s, live s → ps_mi L (fun x => x < c ∧ own x = s) (rs s)) ∧ (∀ x, x < c → ps_mi L (fun y => y < c ∧ own y = own x ∧ L x y) (nx x))
/-- the distribution, when w runs are written: sl r is run r's slot -/
def ps_Dist (c : Nat) (L : Nat → Nat → Prop) (rn : Nat → Nat) (w : Nat) (sl fs rc : Nat → Nat) (rs : Nat → Int32) : Prop :=
  (∀ r, 1 ≤ r → r ≤ w → ps_live fs rc (sl r)) ∧ (∀ p q, 1 ≤ p → p ≤ w → 1 ≤ q → q ≤ w → sl p = sl q → p = q) ∧ (∀ s, ps_live fs rc s → ps_mi L (fun x => x < c ∧ rn x ≤ w ∧ sl (rn x) = s) (rs s))
theorem ps_Dist0 (c : Nat) (L : Nat → Nat → Prop) (rn sl fs rc : Nat → Nat) (rs : Nat → Int32) (h0 : ∀ t, t < 4 → rc t = 0) : ps_Dist c L rn 0 sl fs rc rs :=
  ⟨fun r a b => by omega, fun p q a b _ _ _ => by omega, fun s h => by
    have h2 := h.2
    rw [h0 (s / 32) (by have := h.1; omega)] at h2
    exact absurd h2 (Nat.not_lt_zero _)⟩
theorem ps_liveU {fs rc : Nat → Nat} {t s : Nat} (h0 : ∀ t, t < 4 → fs t = 0) (ht : t < 4) (hr : rc t < 32) : ps_live fs (ps_un rc t (rc t + 1)) s ↔ (ps_live fs rc s ∨ s = t * 32 + rc t) := by
  unfold ps_live
  by_cases q : s / 32 = t
  · rw [q, ps_us, h0 t ht]; constructor
    · intro h; omega
    · intro h; omega
  · rw [ps_uo q]; constructor
    · intro h; exact Or.inl h
    · intro h
      rcases h with h | h
      · exact h
      · omega
theorem ps_liveN {fs rc : Nat → Nat} {t : Nat} (h0 : ∀ t, t < 4 → fs t = 0) (ht : t < 4) (hr : rc t < 32) : ¬ ps_live fs rc (t * 32 + rc t) := by
  intro h
  have h2 := h.2
  have e : (t * 32 + rc t) / 32 = t := by omega
  rw [e, h0 t ht] at h2
  omega
/-- a dummy run is appended -/
theorem ps_DistD {c w t : Nat} {L : Nat → Nat → Prop} {rn sl fs rc : Nat → Nat} {rs : Nat → Int32} (D : ps_Dist c L rn w sl fs rc rs) (h1 : ∀ x, x < c → 1 ≤ rn x) (h0 : ∀ t, t < 4 → fs t = 0) (ht : t < 4) (hr : rc t < 32) : ps_Dist c L rn w sl fs (ps_un rc t (rc t + 1)) (upd rs (t * 32 + rc t) (-1)) := by
  obtain ⟨a, i, m⟩ := D
  refine ⟨fun r p q => (ps_liveU h0 ht hr).2 (Or.inl (a r p q)), i, fun s hs => ?_⟩
  by_cases e : s = t * 32 + rc t
  · have eu : upd rs (t * 32 + rc t) (-1) s = -1 := if_pos e
    rw [eu]
    refine ps_mi_0 ?_
    intro y hy
    have l := a (rn y) (h1 y hy.1) hy.2.1
    rw [hy.2.2, e] at l
    exact ps_liveN h0 ht hr l
  · have eu : upd rs (t * 32 + rc t) (-1) s = rs s := if_neg e
    rw [eu]
    rcases (ps_liveU h0 ht hr).1 hs with q | q
    · exact m s q
    · exact absurd q e
/-- run w + 1 is appended -/
theorem ps_DistR {c w t : Nat} {L : Nat → Nat → Prop} {rn sl fs rc : Nat → Nat} {rs : Nat → Int32} {h : Int32} (D : ps_Dist c L rn w sl fs rc rs) (h1 : ∀ x, x < c → 1 ≤ rn x) (h0 : ∀ t, t < 4 → fs t = 0) (ht : t < 4) (hr : rc t < 32) (hh : ps_mi L (fun x => x < c ∧ rn x = w + 1) h) :
    ps_Dist c L rn (w + 1) (ps_un sl (w + 1) (t * 32 + rc t)) fs (ps_un rc t (rc t + 1)) (upd rs (t * 32 + rc t) h) := by
  obtain ⟨a, i, m⟩ := D
  refine ⟨?_, ?_, ?_⟩
  · intro r p q
    by_cases e : r = w + 1
    · rw [e, ps_us]; exact (ps_liveU h0 ht hr).2 (Or.inr rfl)
    · rw [ps_uo e]; exact (ps_liveU h0 ht hr).2 (Or.inl (a r p (by omega)))
  · intro p q p1 pw q1 qw e
    by_cases ep : p = w + 1
    · by_cases eq : q = w + 1
      · omega
      · rw [ep, ps_us, ps_uo eq] at e
        have l := a q q1 (by omega)
        rw [← e] at l
        exact absurd l (ps_liveN h0 ht hr)
    · by_cases eq : q = w + 1
      · rw [eq, ps_us, ps_uo ep] at e
        have l := a p p1 (by omega)
        rw [e] at l
        exact absurd l (ps_liveN h0 ht hr)
      · rw [ps_uo ep, ps_uo eq] at e
        exact i p q p1 (by omega) q1 (by omega) e
  · intro s hs
    by_cases e : s = t * 32 + rc t
    · have eu : upd rs (t * 32 + rc t) h s = h := if_pos e
      rw [eu]
      refine ps_mi_c ?_ hh
      intro y
      constructor
      · intro z
        refine ⟨z.1, by omega, ?_⟩
        rw [z.2, ps_us]; exact e.symm
      · intro z
        refine ⟨z.1, ?_⟩
        by_cases ew : rn y = w + 1
        · exact ew
        · exfalso
          have z2 := z.2.2
          rw [ps_uo ew, e] at z2
          have l := a (rn y) (h1 y z.1) (by have := z.2.1; omega)
          rw [z2] at l
          exact ps_liveN h0 ht hr l
    · have eu : upd rs (t * 32 + rc t) h s = rs s := if_neg e
      rw [eu]
      rcases (ps_liveU h0 ht hr).1 hs with q | q
      · refine ps_mi_c ?_ (m s q)
        intro y
        constructor
        · intro z
          refine ⟨z.1, by have := z.2.1; omega, ?_⟩
          rw [ps_uo (by have := z.2.1; omega)]; exact z.2.2
        · intro z
          by_cases ew : rn y = w + 1
          · exfalso
            have z2 := z.2.2
            rw [ew, ps_us] at z2
            exact e z2.symm
          · refine ⟨z.1, by have := z.2.1; omega, ?_⟩
            have z2 := z.2.2
            rw [ps_uo ew] at z2
            exact z2
      · exact absurd q e
/-- all runs are written: the records' owners -/
theorem ps_DistE {c R : Nat} {L : Nat → Nat → Prop} {rn sl fs rc : Nat → Nat} {rs nx : Nat → Int32} (D : ps_Dist c L rn R sl fs rc rs) (h1 : ∀ x, x < c → 1 ≤ rn x ∧ rn x ≤ R) (hn : ∀ x, x < c → ps_mi L (fun y => y < c ∧ rn y = rn x ∧ L x y) (nx x)) : ps_Own c L (fun x => sl (rn x)) (ps_live fs rc) nx rs := by
  obtain ⟨a, i, m⟩ := D
  refine ⟨fun x hx => a _ (h1 x hx).1 (h1 x hx).2, fun s hs => ?_, fun x hx => ?_⟩
  · refine ps_mi_c ?_ (m s hs)
    intro y
    exact ⟨fun z => ⟨z.1, z.2.2⟩, fun z => ⟨z.1, (h1 y z.1).2, z.2⟩⟩
  · refine ps_mi_c ?_ (hn x hx)
    intro y
    constructor
    · intro z; exact ⟨z.1, by show sl (rn y) = sl (rn x); rw [z.2.1], z.2.2⟩
    · intro z; exact ⟨z.1, i _ _ (h1 y z.1).1 (h1 y z.1).2 (h1 x hx).1 (h1 x hx).2 z.2.1, z.2.2⟩
/-! merging: U t x says that x is a record of the run taken from tape t -/
def ps_Un (T : Nat) (U : Nat → Nat → Prop) (x : Nat) : Prop := ∃ t, t < T ∧ U t x
def ps_MI (T : Nat) (L : Nat → Nat → Prop) (U : Nat → Nat → Prop) (nx0 mh nx : Nat → Int32) (fi la : Int32) : Prop :=
  (la = -1 ∧ fi = -1 ∧ nx = nx0 ∧ ∀ t, t < T → ps_mi L (U t) (mh t)) ∨
  (∃ l, la = nI l ∧ ps_Un T U l ∧ ps_mi L (ps_Un T U) fi ∧ (∀ t, t < T → ps_mi L (fun x => U t x ∧ L l x) (mh t))
    ∧ (∀ x, ps_Un T U x → L x l → ps_mi L (fun y => ps_Un T U y ∧ L x y) (nx x)) ∧ (∀ x, ¬ (ps_Un T U x ∧ L x l) → nx x = nx0 x))
/-- the records that are still to come -/
def ps_rem (T : Nat) (L : Nat → Nat → Prop) (U : Nat → Nat → Prop) (la : Int32) (x : Nat) : Prop := ps_Un T U x ∧ (la = -1 ∨ ∃ l, la = nI l ∧ l < 2 ^ 31 ∧ L l x)
def ps_Ud (T : Nat) (U : Nat → Nat → Prop) : Prop := (∀ t x, t < T → U t x → x < 64) ∧ (∀ t t' x, t < T → t' < T → U t x → U t' x → t = t')
/-- the first turn -/
theorem ps_M1 {T : Nat} {L : Nat → Nat → Prop} {U : Nat → Nat → Prop} {nx0 mh : Nat → Int32} (hL : ps_T L) (hU : ps_Ud T U) (hn : ∀ t x, t < T → U t x → ps_mi L (fun y => U t y ∧ L x y) (nx0 x)) (hm : ∀ t, t < T → ps_mi L (U t) (mh t)) {b r : Nat} (hb : b < T) (hr : U b r) (hle : ∀ x, ps_Un T U x → x = r ∨ L r x) :
    ps_MI T L U nx0 (upd mh b (nx0 r)) nx0 (nI r) (nI r) := by
  refine Or.inr ⟨r, rfl, ⟨b, hb, hr⟩, ps_mi_1 r ⟨b, hb, hr⟩ hle, ?_, ?_, fun x _ => rfl⟩
  · intro t ht
    by_cases e : t = b
    · have eu : upd mh b (nx0 r) t = nx0 r := if_pos e
      rw [eu, e]; exact hn b r hb hr
    · have eu : upd mh b (nx0 r) t = mh t := if_neg e
      rw [eu]
      refine ps_mi_c ?_ (hm t ht)
      intro y
      constructor
      · intro z
        refine ⟨z, ?_⟩
        rcases hle y ⟨t, ht, z⟩ with q | q
        · rw [q] at z; exact absurd (hU.2 t b r ht hb z hr) e
        · exact q
      · intro z; exact z.1
  · intro x hx h
    rcases hle x hx with q | q
    · rw [q] at h; exact absurd h (hL.1 r)
    · exact (ps_as hL h q).elim
/-- a further turn -/
theorem ps_M2 {T : Nat} {L : Nat → Nat → Prop} {U : Nat → Nat → Prop} {nx0 mh nx : Nat → Int32} {fi : Int32} {l : Nat} (hL : ps_T L) (hU : ps_Ud T U) (hn : ∀ t x, t < T → U t x → ps_mi L (fun y => U t y ∧ L x y) (nx0 x))
    (hl : ps_Un T U l) (hf : ps_mi L (ps_Un T U) fi) (hm : ∀ t, t < T → ps_mi L (fun x => U t x ∧ L l x) (mh t))
    (hd : ∀ x, ps_Un T U x → L x l → ps_mi L (fun y => ps_Un T U y ∧ L x y) (nx x)) (hk : ∀ x, ¬ (ps_Un T U x ∧ L x l) → nx x = nx0 x)
    {b r : Nat} (hb : b < T) (hr : U b r) (hlr : L l r) (hle : ∀ x, ps_Un T U x → L l x → x = r ∨ L r x) :
    ps_MI T L U nx0 (upd mh b (nx r)) (upd nx l (nI r)) fi (nI r) := by
  have er : nx r = nx0 r := hk r (fun z => ps_as hL z.2 hlr)
  refine Or.inr ⟨r, rfl, ⟨b, hb, hr⟩, hf, ?_, ?_, ?_⟩
  · intro t ht
    by_cases e : t = b
    · have eu : upd mh b (nx r) t = nx r := if_pos e
      rw [eu, e, er]; exact hn b r hb hr
    · have eu : upd mh b (nx r) t = mh t := if_neg e
      rw [eu]
      refine ps_mi_c ?_ (hm t ht)
      intro y
      constructor
      · intro z
        refine ⟨z.1, ?_⟩
        rcases hle y ⟨t, ht, z.1⟩ z.2 with q | q
        · rw [q] at z; exact absurd (hU.2 t b r ht hb z.1 hr) e
        · exact q
      · intro z; exact ⟨z.1, hL.2.1 _ _ _ hlr z.2⟩
  · intro x hx h
    by_cases e : x = l
    · have eu : upd nx l (nI r) x = nI r := if_pos e
      rw [eu, e]
      refine ps_mi_1 r ⟨⟨b, hb, hr⟩, hlr⟩ ?_
      intro y hy; exact hle y hy.1 hy.2
    · have eu : upd nx l (nI r) x = nx x := if_neg e
      rw [eu]
      refine hd x hx ?_
      rcases hL.2.2 x l e with q | q
      · exact q
      · rcases hle x hx q with z | z
        · rw [z] at h; exact absurd h (hL.1 r)
        · exact (ps_as hL h z).elim
  · intro x hx
    have e : x ≠ l := fun z => hx (z ▸ ⟨hl, hlr⟩)
    have eu : upd nx l (nI r) x = nx x := if_neg e
    rw [eu]
    refine hk x (fun z => hx ⟨z.1, hL.2.1 _ _ _ z.2 hlr⟩)
/-- nothing is left -/
theorem ps_ME {T : Nat} {L : Nat → Nat → Prop} {U : Nat → Nat → Prop} {nx0 mh nx : Nat → Int32} {fi la : Int32} (hL : ps_T L) (hU : ps_Ud T U) (hn : ∀ t x, t < T → U t x → ps_mi L (fun y => U t y ∧ L x y) (nx0 x))
    (I : ps_MI T L U nx0 mh nx fi la) (h0 : ∀ x, x < 64 → ¬ ps_rem T L U la x) :
    ps_mi L (ps_Un T U) fi ∧ (∀ x, ps_Un T U x → ps_mi L (fun y => ps_Un T U y ∧ L x y) (nx x)) ∧ (∀ x, ¬ ps_Un T U x → nx x = nx0 x) := by
  have lt : ∀ x, ps_Un T U x → x < 64 := fun x ⟨t, ht, h⟩ => hU.1 t x ht h
  rcases I with ⟨el, ef, en, hm⟩ | ⟨l, el, hl, hf, hm, hd, hk⟩
  · have no : ∀ x, ¬ ps_Un T U x := fun x hx => h0 x (lt x hx) ⟨hx, Or.inl el⟩
    refine ⟨ef ▸ ps_mi_0 no, fun x hx => absurd hx (no x), fun x _ => by rw [en]⟩
  · have no : ∀ x, ps_Un T U x → ¬ L l x := fun x hx h => h0 x (lt x hx) ⟨hx, Or.inr ⟨l, el, by have := lt l hl; omega, h⟩⟩
    refine ⟨hf, ?_, fun x hx => hk x (fun z => hx z.1)⟩
    intro x hx
    by_cases e : x = l
    · rw [e]
      have el2 : nx l = nx0 l := hk l (fun z => hL.1 l z.2)
      obtain ⟨t, ht, hlt⟩ := hl
      have q := hn t l ht hlt
      rw [el2]
      refine ps_mi_c ?_ q
      intro y
      constructor
      · intro z; exact absurd z.2 (no y ⟨t, ht, z.1⟩)
      · intro z; exact absurd z.2 (no y z.1)
    · rcases hL.2.2 x l e with q | q
      · exact hd x hx q
      · exact absurd q (no x hx)
noncomputable def ps_ow (T : Nat) (U : Nat → Nat → Prop) (Z : Nat) (own : Nat → Nat) (x : Nat) : Nat := @ite Nat (ps_Un T U x) (Classical.propDecidable _) Z (own x)
theorem ps_ow_t {T : Nat} {U : Nat → Nat → Prop} {Z : Nat} {own : Nat → Nat} {x : Nat} (h : ps_Un T U x) : ps_ow T U Z own x = Z := if_pos h
theorem ps_ow_f {T : Nat} {U : Nat → Nat → Prop} {Z : Nat} {own : Nat → Nat} {x : Nat} (h : ¬ ps_Un T U x) : ps_ow T U Z own x = own x := if_neg h
/-- the owners after a merge: Z is the slot of the merged run, Rm are the slots taken -/
theorem ps_OwnM {c T Z : Nat} {L : Nat → Nat → Prop} {own : Nat → Nat} {live live' Rm : Nat → Prop} {nx nx' rs rs' : Nat → Int32} {U : Nat → Nat → Prop} {fi : Int32}
    (O : ps_Own c L own live nx rs) (hu : ∀ x, ps_Un T U x ↔ (x < c ∧ Rm (own x))) (hZ : ¬ live Z)
    (hl : ∀ s, live' s ↔ ((live s ∧ ¬ Rm s) ∨ s = Z))
    (hs : ∀ s, s ≠ Z → rs' s = rs s) (hz : rs' Z = fi) (hf : ps_mi L (ps_Un T U) fi)
    (hd : ∀ x, ps_Un T U x → ps_mi L (fun y => ps_Un T U y ∧ L x y) (nx' x)) (hk : ∀ x, ¬ ps_Un T U x → nx' x = nx x) :
    ∃ own' : Nat → Nat, ps_Own c L own' live' nx' rs' := by
  obtain ⟨a, m, n⟩ := O
  have u1 : ∀ x, ps_Un T U x → x < c := fun x h => ((hu x).1 h).1
  have u2 : ∀ x y, x < c → y < c → own x = own y → ps_Un T U x → ps_Un T U y := by
    intro x y _ hy e h
    exact (hu y).2 ⟨hy, e ▸ ((hu x).1 h).2⟩
  refine ⟨ps_ow T U Z own, ?_, ?_, ?_⟩
  · intro x hx
    by_cases q : ps_Un T U x
    · rw [ps_ow_t q]; exact (hl Z).2 (Or.inr rfl)
    · rw [ps_ow_f q]
      exact (hl _).2 (Or.inl ⟨a x hx, fun z => q ((hu x).2 ⟨hx, z⟩)⟩)
  · intro s hls
    by_cases e : s = Z
    · rw [e, hz]
      refine ps_mi_c ?_ hf
      intro y
      constructor
      · intro hy; exact ⟨u1 y hy, ps_ow_t hy⟩
      · intro hy
        by_cases q : ps_Un T U y
        · exact q
        · exfalso
          have e2 := hy.2
          rw [ps_ow_f q] at e2
          exact hZ (e2 ▸ a y hy.1)
    · rw [hs s e]
      rcases (hl s).1 hls with h | h
      · refine ps_mi_c ?_ (m s h.1)
        intro y
        constructor
        · intro hy
          have q : ¬ ps_Un T U y := fun z => h.2 (hy.2 ▸ ((hu y).1 z).2)
          exact ⟨hy.1, by rw [ps_ow_f q]; exact hy.2⟩
        · intro hy
          by_cases q : ps_Un T U y
          · exfalso
            have e2 := hy.2
            rw [ps_ow_t q] at e2
            exact e e2.symm
          · have e2 := hy.2
            rw [ps_ow_f q] at e2
            exact ⟨hy.1, e2⟩
      · exact absurd h e
  · intro x hx
    by_cases q : ps_Un T U x
    · refine ps_mi_c ?_ (hd x q)
      intro y
      constructor
      · intro hy; exact ⟨u1 y hy.1, by rw [ps_ow_t q, ps_ow_t hy.1], hy.2⟩
      · intro hy
        by_cases qy : ps_Un T U y
        · exact ⟨qy, hy.2.2⟩
        · exfalso
          have e2 := hy.2.1
          rw [ps_ow_t q, ps_ow_f qy] at e2
          exact hZ (e2 ▸ a y hy.1)
    · rw [hk x q]
      refine ps_mi_c ?_ (n x hx)
      intro y
      constructor
      · intro hy
        have qy : ¬ ps_Un T U y := fun z => q (u2 y x hy.1 hx hy.2.1 z)
        exact ⟨hy.1, by rw [ps_ow_f q, ps_ow_f qy]; exact hy.2.1, hy.2.2⟩
      · intro hy
        by_cases qy : ps_Un T U y
        · exfalso
          have e2 := hy.2.1
          rw [ps_ow_f q, ps_ow_t qy] at e2
          exact hZ (e2 ▸ a x hx)
        · have e2 := hy.2.1
          rw [ps_ow_f q, ps_ow_f qy] at e2
          exact ⟨hy.1, e2, hy.2.2⟩
/-! the live slots after a merge -/
def ps_f1 (T f : Nat) (fsN : Nat → Nat) (t : Nat) : Nat := if t < T ∧ t ≠ f then (fsN t + 1) % 32 else fsN t
def ps_r1 (T f : Nat) (rcN : Nat → Nat) (t : Nat) : Nat := if t = f then rcN t + 1 else if t < T then rcN t - 1 else rcN t
theorem ps_liveM {T f s : Nat} {fsN rcN : Nat → Nat} (hT : T ≤ 4) (hf : f < T) (h32 : ∀ t, t < 4 → fsN t < 32) (h1 : ∀ t, t < T → t ≠ f → 1 ≤ rcN t ∧ rcN t ≤ 32) (hr : rcN f < 32) :
    ps_live (ps_f1 T f fsN) (ps_r1 T f rcN) s ↔ ((ps_live fsN rcN s ∧ ¬ (∃ t, t < T ∧ t ≠ f ∧ s = t * 32 + fsN t)) ∨ s = f * 32 + (fsN f + rcN f) % 32) := by
  unfold ps_live
  by_cases b : s < 128
  · have a32 := h32 (s / 32) (by omega)
    by_cases e : s / 32 = f
    · have e1 : ps_f1 T f fsN (s / 32) = fsN f := by unfold ps_f1; rw [if_neg (by omega), e]
      have e2 : ps_r1 T f rcN (s / 32) = rcN f + 1 := by unfold ps_r1; rw [if_pos e, e]
      rw [e1, e2, e]
      rw [e] at a32
      constructor
      · intro h
        by_cases q : (s % 32 + 32 - fsN f) % 32 < rcN f
        · left
          refine ⟨⟨b, q⟩, fun ⟨t, ht, tf, es⟩ => ?_⟩
          have := h32 t (by omega)
          omega
        · right; omega
      · intro h
        rcases h with h | h
        · exact ⟨b, by omega⟩
        · exact ⟨b, by omega⟩
    · by_cases g : s / 32 < T
      · have k1 := h1 _ g e
        have e1 : ps_f1 T f fsN (s / 32) = (fsN (s / 32) + 1) % 32 := by unfold ps_f1; rw [if_pos ⟨g, e⟩]
        have e2 : ps_r1 T f rcN (s / 32) = rcN (s / 32) - 1 := by unfold ps_r1; rw [if_neg e, if_pos g]
        rw [e1, e2]
        constructor
        · intro h
          left
          refine ⟨⟨b, by omega⟩, fun ⟨t, ht, tf, es⟩ => ?_⟩
          have ft := h32 t (by omega)
          have et : s / 32 = t := by omega
          rw [← et] at es
          omega
        · intro h
          rcases h with h | h
          · have ne : s % 32 ≠ fsN (s / 32) := by
              intro z
              exact h.2 ⟨s / 32, g, e, by omega⟩
            exact ⟨b, by omega⟩
          · exfalso; apply e; omega
      · have e1 : ps_f1 T f fsN (s / 32) = fsN (s / 32) := by unfold ps_f1; rw [if_neg (by omega)]
        have e2 : ps_r1 T f rcN (s / 32) = rcN (s / 32) := by unfold ps_r1; rw [if_neg e, if_neg g]
        rw [e1, e2]
        constructor
        · intro h
          left
          refine ⟨h, fun ⟨t, ht, tf, es⟩ => ?_⟩
          have := h32 t (by omega)
          omega
        · intro h
          rcases h with h | h
          · exact h.1
          · exfalso; apply e; omega
  · constructor
    · intro h; exact absurd h.1 b
    · intro h
      rcases h with h | h
      · exact absurd h.1.1 b
      · exfalso; omega
theorem ps_liveZ {f : Nat} {fsN rcN : Nat → Nat} (h32 : fsN f < 32) (hr : rcN f < 32) : ¬ ps_live fsN rcN (f * 32 + (fsN f + rcN f) % 32) := by
  intro h
  have h2 := h.2
  have e : (f * 32 + (fsN f + rcN f) % 32) / 32 = f := by omega
  rw [e] at h2
  omega
