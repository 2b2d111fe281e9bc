/-! perfect distributions and the counts of the runs on the tapes. -/
def ps_pa (T : Nat) : Nat → Nat → Nat
  | 0, j => if j = 0 then 1 else 0
  | n + 1, j => if j + 1 < T then ps_pa T n 0 + ps_pa T n (j + 1) else 0
def ps_tt (T n : Nat) : Nat := ps_pa T n 0 + ps_pa T n 1 + ps_pa T n 2
def ps_T34 (T : Nat) : Prop := T = 3 ∨ T = 4
theorem ps_pa_s (T n j : Nat) : ps_pa T (n + 1) j = if j + 1 < T then ps_pa T n 0 + ps_pa T n (j + 1) else 0 := rfl
theorem ps_pa_0 {T n j : Nat} (hT : ps_T34 T) (h : T ≤ j + 1) : ps_pa T n j = 0 := by
  cases n with
  | zero => exact if_neg (by rcases hT with e | e <;> omega)
  | succ n => exact if_neg (by omega)
theorem ps_tab3 : ∀ n, n < 8 → ps_pa 3 n 0 ≤ 24 ∧ ps_pa 3 n 1 ≤ 24 ∧ (n = 0 ∨ 1 ≤ ps_pa 3 n 1) ∧ ps_pa 3 n 1 ≤ ps_pa 3 n 0 := by decide
theorem ps_tab4 : ∀ n, n < 7 → ps_pa 4 n 0 ≤ 24 ∧ ps_pa 4 n 1 ≤ 24 ∧ ps_pa 4 n 2 ≤ 24 ∧ (n = 0 ∨ 1 ≤ ps_pa 4 n 2) ∧ ps_pa 4 n 2 ≤ ps_pa 4 n 1 ∧ ps_pa 4 n 1 ≤ ps_pa 4 n 0 := by decide
theorem ps_tt3 : 32 ≤ ps_tt 3 7 := by decide
theorem ps_tt4 : 32 ≤ ps_tt 4 6 := by decide
/-- the level: the least whose total is enough -/
theorem ps_lev {T R : Nat} (hT : ps_T34 T) (hR : R ≤ 32) : ∃ n, n + T ≤ 10 ∧ R ≤ ps_tt T n ∧ ∀ m, m < n → ps_tt T m < R := by
  have ex : ∃ k, k + T ≤ 10 ∧ R ≤ ps_tt T k := by
    rcases hT with e | e
    · subst e; exact ⟨7, by omega, Nat.le_trans hR ps_tt3⟩
    · subst e; exact ⟨6, by omega, Nat.le_trans hR ps_tt4⟩
  obtain ⟨k, hk, hR2⟩ := ex
  have st : ∀ d, d ≤ k → (∃ n, n ≤ d ∧ R ≤ ps_tt T n ∧ ∀ m, m < n → ps_tt T m < R) ∨ (∀ m, m ≤ d → ps_tt T m < R) := by
    intro d
    induction d with
    | zero =>
      intro _
      by_cases q : R ≤ ps_tt T 0
      · exact Or.inl ⟨0, Nat.le_refl 0, q, fun m h => absurd h (Nat.not_lt_zero m)⟩
      · right; intro m hm
        have : m = 0 := by omega
        subst this; omega
    | succ d ih =>
      intro hd
      rcases ih (by omega) with ⟨n, hn, a, b⟩ | h
      · exact Or.inl ⟨n, by omega, a, b⟩
      · by_cases q : R ≤ ps_tt T (d + 1)
        · exact Or.inl ⟨d + 1, Nat.le_refl _, q, fun m hm => h m (by omega)⟩
        · right; intro m hm
          by_cases e : m = d + 1
          · subst e; omega
          · exact h m (by omega)
  rcases st k (Nat.le_refl k) with ⟨n, hn, a, b⟩ | h
  · exact ⟨n, by omega, a, b⟩
  · have := h k (Nat.le_refl k); omega
/-- the counts of the runs at level n, output tape f, after d merges of the phase -/
def ps_Rc (T n f d : Nat) (rc : Nat → Nat) : Prop := ∀ t, t < T → rc t = if t = f then d else ps_pa T n ((t + T - f - 1) % T) - d
/-- a merge that doesn't end the phase, one that does -/
theorem ps_RcM {T n f d : Nat} {rc rc' : Nat → Nat} (hf : f < T) (h : ps_Rc T n f d rc) (h' : ∀ t, t < T → rc' t = if t = f then rc t + 1 else rc t - 1) : ps_Rc T n f (d + 1) rc' := by
  intro t ht
  rw [h' t ht, h t ht]
  by_cases e : t = f
  · rw [if_pos e, if_pos e, if_pos e]
  · rw [if_neg e, if_neg e, if_neg e]; omega
theorem ps_RcP {T n f : Nat} {rc : Nat → Nat} (hT : ps_T34 T) (hn : n + 1 + T ≤ 10) (hf : f < T) (h : ps_Rc T (n + 1) f (ps_pa T (n + 1) (T - 2)) rc) : ps_Rc T n ((f + T - 1) % T) 0 rc := by
  intro t ht
  rw [h t ht]
  rcases hT with e | e
  · subst e
    have p1 : ps_pa 3 (n + 1) 1 = ps_pa 3 n 0 + ps_pa 3 n 2 := rfl
    have p0 : ps_pa 3 (n + 1) 0 = ps_pa 3 n 0 + ps_pa 3 n 1 := rfl
    have z : ps_pa 3 n 2 = 0 := ps_pa_0 (Or.inl rfl) (by omega)
    have c : f = 0 ∨ f = 1 ∨ f = 2 := by omega
    have d : t = 0 ∨ t = 1 ∨ t = 2 := by omega
    rcases c with c | c | c <;> rcases d with d | d | d <;> subst c <;> subst d <;> simp [p0, p1, z] <;> omega
  · subst e
    have p2 : ps_pa 4 (n + 1) 2 = ps_pa 4 n 0 + ps_pa 4 n 3 := rfl
    have p1 : ps_pa 4 (n + 1) 1 = ps_pa 4 n 0 + ps_pa 4 n 2 := rfl
    have p0 : ps_pa 4 (n + 1) 0 = ps_pa 4 n 0 + ps_pa 4 n 1 := rfl
    have z : ps_pa 4 n 3 = 0 := ps_pa_0 (Or.inr rfl) (by omega)
    have c : f = 0 ∨ f = 1 ∨ f = 2 ∨ f = 3 := by omega
    have d : t = 0 ∨ t = 1 ∨ t = 2 ∨ t = 3 := by omega
    rcases c with c | c | c | c <;> rcases d with d | d | d | d <;> subst c <;> subst d <;> simp [p0, p1, p2, z] <;> omega
