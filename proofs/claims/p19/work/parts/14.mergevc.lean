/-! mergeOne and mergePhase. -/
theorem ps_cb {T n f d : Nat} {rcN : Nat → Nat} (hT : ps_T34 T) (hf : f < T) (h : ps_Rc T n f d rcN) :
    (f + T - 1) % T < T ∧ (f + T - 1) % T ≠ f ∧ rcN ((f + T - 1) % T) = ps_pa T n (T - 2) - d := by
  have lt : (f + T - 1) % T < T := Nat.mod_lt _ (by omega)
  have ne : (f + T - 1) % T ≠ f := by
    rcases hT with e | e <;> subst e <;> omega
  refine ⟨lt, ne, ?_⟩
  rw [h _ lt, if_neg ne]
  have e : ((f + T - 1) % T + T - f - 1) % T = T - 2 := by
    rcases hT with e | e <;> subst e <;> omega
  rw [e]
theorem ps_ci {T f t : Nat} (hT : ps_T34 T) (hf : f < T) (ht : t < T) (tf : t ≠ f) : (t + T - f - 1) % T + 1 < T := by
  rcases hT with e | e <;> subst e <;> omega
theorem ps_Rc0 {T f : Nat} {rc : Nat → Nat} (hT : ps_T34 T) (hf : f < T) (h : ps_Rc T 0 ((f + T - 1) % T) 0 rc) : rc f = 1 ∧ ∀ t, t < T → t ≠ f → rc t = 0 := by
  have p0 : ps_pa T 0 0 = 1 := rfl
  refine ⟨?_, fun t ht tf => ?_⟩
  · rw [h f hf]
    have ne : ¬ f = (f + T - 1) % T := by
      rcases hT with e | e <;> subst e <;> omega
    have e : (f + T - (f + T - 1) % T - 1) % T = 0 := by
      rcases hT with e | e <;> subst e <;> omega
    rw [if_neg ne, e, p0]
  · rw [h t ht]
    by_cases q : t = (f + T - 1) % T
    · rw [if_pos q]
    · rw [if_neg q]
      have e : ¬ (t + T - (f + T - 1) % T - 1) % T = 0 := by
        rcases hT with e | e <;> subst e <;> omega
      have p : ps_pa T 0 ((t + T - (f + T - 1) % T - 1) % T) = 0 := if_neg e
      rw [p]
/-! the reference's step -/
def ps_hu (f : Nat) (hl : Nat → Int32) : Nat → (Nat → Int32)
  | 0 => hl
  | i + 1 => upd (ps_hu f hl i) i (if i = f then ps_hu f hl i i + 1 else ps_hu f hl i i - 1)
theorem ps_hu_s (f : Nat) (hl : Nat → Int32) (i : Nat) : ps_hu f hl (i + 1) = upd (ps_hu f hl i) i (if i = f then ps_hu f hl i i + 1 else ps_hu f hl i i - 1) := rfl
theorem ps_hu_v (f : Nat) (hl : Nat → Int32) : ∀ i t, (t < i → ps_hu f hl i t = if t = f then hl t + 1 else hl t - 1) ∧ (i ≤ t → ps_hu f hl i t = hl t) := by
  intro i
  induction i with
  | zero => intro t; exact ⟨fun h => absurd h (Nat.not_lt_zero t), fun _ => rfl⟩
  | succ i ih =>
    intro t
    rw [ps_hu_s]
    refine ⟨fun h => ?_, fun h => ?_⟩
    · by_cases e : t = i
      · rw [e, pk_us, (ih i).2 (Nat.le_refl i)]
      · rw [pk_un e]; exact (ih t).1 (by omega)
    · rw [pk_un (by omega)]; exact (ih t).2 (by omega)
/-! the component's step -/
theorem px_mo {wS rL rC gR hd lW ur cR : Int32} {K V N nx ws fo pr rs fs rc mh : Nat → Int32} {post : Int32 → St2 → Prop} {T c n f s : Nat} {fsN rcN own : Nat → Nat} (hT : ps_T34 T) (hc : c ≤ 64) (hf : f < T) (n1 : 1 ≤ n) (n2 : n < 1000) (hfr : ∀ t, t < 4 → fs t = nI (fsN t) ∧ fsN t < 32 ∧ rc t = nI (rcN t)) (h1 : ∀ t, t < T → t ≠ f → 1 ≤ rcN t) (hr : ∀ t, t < 4 → rcN t ≤ 31)
    (O : ps_Own c (ps_L K) own (ps_live fsN rcN) nx rs) (hs : ps_r1 T f rcN ((f + T - 1) % T) = s)
    (hp : ∀ (own' : Nat → Nat) (nx' rs' fs' rc' mh' : Nat → Int32), (∀ t, t < 4 → fs' t = nI (ps_f1 T f fsN t)) → (∀ t, t < 4 → rc' t = nI (ps_r1 T f rcN t)) → ps_Own c (ps_L K) own' (ps_live (ps_f1 T f fsN) (ps_r1 T f rcN)) nx' rs' →
      (1 ≤ s → post 0 (nI T, wS, rL, 1, rC, gR, hd, lW, nI n, nI f, ur, cR, K, V, N, nx', ws, fo, pr, rs', fs', rc', mh')) ∧ (s = 0 → n = 1 → post 5 (nI T, wS, rL, 2, rC, gR, hd, lW, nI (n - 1), nI f, rs' (f * 32 + ps_f1 T f fsN f), -1, K, V, N, nx', ws, fo, pr, rs', fs', rc', mh')) ∧ (s = 0 → 2 ≤ n → post 4 (nI T, wS, rL, 1, rC, gR, hd, lW, nI (n - 1), nI ((f + T - 1) % T), ur, cR, K, V, N, nx', ws, fo, pr, rs', fs', rc', mh'))) :
    wpX_mergeOne post (nI T, wS, rL, 1, rC, gR, hd, lW, nI n, nI f, ur, cR, K, V, N, nx, ws, fo, pr, rs, fs, rc, mh) := by
  have t4 := ps_T4 hT
  refine br_t rfl ?_
  refine px_mf (by omega) hc hf hfr h1 hr O (fun own' nx' rs' fs' rc' mh' a b O' => ?_)
  obtain ⟨g0, g5, g4⟩ := hp own' nx' rs' fs' rc' mh' a b O'
  have hb : (f + T - 1) % T < T := Nat.mod_lt _ (by omega)
  have f1 : ps_f1 T f fsN f = fsN f := by unfold ps_f1; rw [if_neg (by omega)]
  have f32 : fsN f < 32 := (hfr f (by omega)).2.1
  have e1 : (nI f + nI T) - 1 = nI (f + T - 1) := by rw [nI_add, ps_p1 (by omega)]
  have sb : s ≤ 32 := by
    rw [← hs]
    unfold ps_r1
    have := hr ((f + T - 1) % T) (by omega)
    split
    · omega
    · omega
  refine And.intro (nI_ne0 (by omega) (by omega)) (nm_r (e' := nI ((f + T - 1) % T)) (by rw [e1]; exact pk_rem (by omega) (by omega) (by omega)) ?_)
  have eb : (nI ((f + T - 1) % T)).toNatClampNeg = (f + T - 1) % T := nI_clamp (by omega)
  refine And.intro (vp_in_nI (by omega) (by decide)) (ps_if (d := s ≤ 0) (by rw [eb, b _ (by omega), hs]; exact nI_leI (b := 0) (by omega) (by omega)) (fun z => ?_) (fun z => g0 (by omega)))
  refine nm_r (ps_p1 n1) (ps_if (d := n - 1 = 0) (nI_eq (b := 0) (by omega) (by omega)) (fun y => ?_) (fun y => g4 (by omega) (by omega)))
  exact px_es (by omega) (a f (by omega)) (by rw [f1]; exact f32) (g5 (by omega) (by omega))
def px_MP (post : Int32 → St2 → Prop) (n : Nat) (r x : Int32) (u : St2) : Prop := match u with
  | (tT, wS, rL, sg, rC, gR, hd, lW, lv, oN, ur, cR, K, V, N, nx, ws, fo, pr, rs, fs, rc, mh) => wX_mergePhase_7 post n r x tT wS rL sg rC gR hd lW lv oN ur cR K V N nx ws fo pr rs fs rc mh
