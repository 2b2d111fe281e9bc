/-! counting and order, for the law's reads -/
theorem qs_same {P Q : Nat → Prop} : ∀ n, (∀ x, x < n → (P x ↔ Q x)) → ps_nP P n = ps_nP Q n := by
  intro n
  induction n with
  | zero => intro _; rfl
  | succ n ih =>
    intro h
    unfold ps_nP
    have i := ih (fun x hx => h x (by omega))
    by_cases p : P n
    · rw [if_pos p, if_pos ((h n (by omega)).1 p), i]
    · rw [if_neg p, if_neg (fun z => p ((h n (by omega)).2 z)), i]
theorem qs_rm {P Q : Nat → Prop} {r : Nat} (h : ∀ x, Q x ↔ (P x ∧ x ≠ r)) (p : P r) : ∀ n, r < n → ps_nP P n = ps_nP Q n + 1 := by
  intro n
  induction n with
  | zero => intro hr; omega
  | succ n ih =>
    intro hr
    unfold ps_nP
    by_cases e : r = n
    · subst e
      have m := qs_same (P := P) (Q := Q) r (fun x hx => ⟨fun z => (h x).2 ⟨z, by omega⟩, fun z => ((h x).1 z).1⟩)
      rw [if_pos p, if_neg (fun z => ((h r).1 z).2 rfl), m]
    · have i := ih (by omega)
      by_cases q : P n
      · rw [if_pos q, if_pos ((h n).2 ⟨q, fun z => e z.symm⟩)]; omega
      · rw [if_neg q, if_neg (fun z => q ((h n).1 z).1)]; omega
theorem qs_all {P : Nat → Prop} {c : Nat} (h : ∀ x, P x ↔ x < c) : ∀ n, ps_nP P n = min n c := by
  intro n
  induction n with
  | zero => show 0 = min 0 c; omega
  | succ n ih =>
    unfold ps_nP
    by_cases p : P n
    · have := (h n).1 p
      rw [if_pos p, ih]; omega
    · have : ¬ n < c := fun z => p ((h n).2 z)
      rw [if_neg p, ih]; omega
theorem qs_pos {P : Nat → Prop} {n x : Nat} (hx : x < n) (p : P x) : 1 ≤ ps_nP P n := by
  by_cases e : ps_nP P n = 0
  · exact absurd p (ps_nP_0 n e x hx)
  · omega
/-- behind the record just read stand those that stood behind the one before, but for itself -/
theorem qs_aft {K : Nat → Int32} {c b : Nat} {la : Int32} (hc : c ≤ 64) (hb : ps_mi (ps_L K) (ps_aft K c la) (nI b)) (bc : b < c) : ps_aft K c la b ∧ ∀ x, ps_aft K c (nI b) x ↔ (ps_aft K c la x ∧ x ≠ b) := by
  have hT := ps_L_T K
  rcases hb with ⟨e, _⟩ | ⟨b', e, pb, mb⟩
  · exact absurd e (ps_ne (by omega))
  · have b'c := pb.1
    have eb : b = b' := ps_inj (by omega) (by omega) e
    subst eb
    refine ⟨pb, fun x => ⟨fun h => ?_, fun h => ?_⟩⟩
    · obtain ⟨xc, h⟩ := h
      have lbx : ps_L K b x := by
        rcases h with h | ⟨l, lc, el, h⟩
        · exact absurd h (ps_ne (by omega))
        · have e2 : b = l := ps_inj (by omega) (by omega) el
          rw [e2]; exact h
      refine ⟨⟨xc, ?_⟩, fun z => hT.1 b (by rw [z] at lbx; exact lbx)⟩
      rcases pb.2 with q | ⟨l, lc, el, q⟩
      · exact Or.inl q
      · exact Or.inr ⟨l, lc, el, hT.2.1 _ _ _ q lbx⟩
    · obtain ⟨h, ne⟩ := h
      refine ⟨h.1, Or.inr ⟨b, bc, rfl, ?_⟩⟩
      rcases mb x h with q | q
      · exact absurd q ne
      · exact q
/-! the perfect distributions as the law reckons them; the merges that are left -/
def qs_mg (T : Nat) : Nat → Nat
  | 0 => 0
  | n + 1 => qs_mg T n + ps_pa T (n + 1) (T - 2)
theorem qs_mg3 : ∀ n, n < 8 → qs_mg 3 n ≤ 33 := by decide
theorem qs_mg4 : ∀ n, n < 7 → qs_mg 4 n ≤ 33 := by decide
theorem qs_mgb {T n : Nat} (hT : ps_T34 T) (hn : n + T ≤ 10) : qs_mg T n ≤ 33 := by
  rcases hT with e | e
  · subst e; exact qs_mg3 n (by omega)
  · subst e; exact qs_mg4 n (by omega)
