/-! mergeOne and mergePhase. -/
theorem ps_cb {T n f d : Nat} {rcN : Nat → Nat} (hT : ps_T34 T) (hf : f < T) (h : ps_Rc T n f d rcN) :
    (f + T - 1) % T < T ∧ (f + T - 1) % T ≠ f ∧ rcN ((f + T - 1) % T) = ps_pa T n (T - 2) - d := by
  have lt : (f + T - 1) % T < T := Nat.mod_lt _ (by omega)
  have ne : (f + T - 1) % T ≠ f := by
    rcases hT with e | e <;> subst e <;> omega
  refine ⟨lt, ne, ?_⟩
  rw [h _ lt, if_neg ne]
  have e : ((f + T - 1) % T + T - f - 1) % T = T - 2 := by
    rcases hT with e | e <;> subst e <;> omega
  rw [e]
theorem ps_ci {T f t : Nat} (hT : ps_T34 T) (hf : f < T) (ht : t < T) (tf : t ≠ f) : (t + T - f - 1) % T + 1 < T := by
  rcases hT with e | e <;> subst e <;> omega
theorem ps_Rc0 {T f : Nat} {rc : Nat → Nat} (hT : ps_T34 T) (hf : f < T) (h : ps_Rc T 0 ((f + T - 1) % T) 0 rc) : rc f = 1 ∧ ∀ t, t < T → t ≠ f → rc t = 0 := by
  have p0 : ps_pa T 0 0 = 1 := rfl
  refine ⟨?_, fun t ht tf => ?_⟩
  · rw [h f hf]
    have ne : ¬ f = (f + T - 1) % T := by
      rcases hT with e | e <;> subst e <;> omega
    have e : (f + T - (f + T - 1) % T - 1) % T = 0 := by
      rcases hT with e | e <;> subst e <;> omega
    rw [if_neg ne, e, p0]
  · rw [h t ht]
    by_cases q : t = (f + T - 1) % T
    · rw [if_pos q]
    · rw [if_neg q]
      have e : ¬ (t + T - (f + T - 1) % T - 1) % T = 0 := by
        rcases hT with e | e <;> subst e <;> omega
      have p : ps_pa T 0 ((t + T - (f + T - 1) % T - 1) % T) = 0 := if_neg e
      rw [p]
/-! the reference's step -/
def ps_hu (f : Nat) (hl : Nat → Int32) : Nat → (Nat → Int32)
  | 0 => hl
  | i + 1 => upd (ps_hu f hl i) i (if i = f then ps_hu f hl i i + 1 else ps_hu f hl i i - 1)
theorem ps_hu_s (f : Nat) (hl : Nat → Int32) (i : Nat) : ps_hu f hl (i + 1) = upd (ps_hu f hl i) i (if i = f then ps_hu f hl i i + 1 else ps_hu f hl i i - 1) := rfl
theorem ps_hu_v (f : Nat) (hl : Nat → Int32) : ∀ i t, (t < i → ps_hu f hl i t = if t = f then hl t + 1 else hl t - 1) ∧ (i ≤ t → ps_hu f hl i t = hl t) := by
  intro i
  induction i with
  | zero => intro t; exact ⟨fun h => absurd h (Nat.not_lt_zero t), fun _ => rfl⟩
  | succ i ih =>
    intro t
    rw [ps_hu_s]
    refine ⟨fun h => ?_, fun h => ?_⟩
    · by_cases e : t = i
      · rw [e, pk_us, (ih i).2 (Nat.le_refl i)]
      · rw [pk_un e]; exact (ih t).1 (by omega)
    · rw [pk_un (by omega)]; exact (ih t).2 (by omega)
theorem py_12 {yW yA yg yc yl yL : Int32} {K V N ins row : Nat → Int32} {post : Int32 → SY → Prop} {T f : Nat} {hl : Nat → Int32} (hT : ps_T34 T) (hf : f < T) (he : wY_mergeOne_79 post (nI ((f + T - 1) % T)) (nI T) yW yA yg yc yl (nI f) yL K V N ins row (ps_hu f hl T)) :
    ∀ m i, i ≤ T → T - i < m → wY_mergeOne_12 post (nI T) yW yA yg yc yl (nI f) yL m (nI i) K V N ins row (ps_hu f hl i) := by
  have t4 := ps_T4 hT
  intro m
  induction m with
  | zero => intro i _ h; omega
  | succ m ih =>
    intro i hi hm
    refine ps_if (d := T ≤ i) (nI_leI (by omega) (by omega)) (fun q => ?_) (fun q => ?_)
    · have e : i = T := by omega
      rw [e]
      refine ps_if (d := f = 0) (nI_eq (b := 0) (by omega) (by omega)) (fun z => ?_) (fun z => ?_)
      · have g : nI ((f + T - 1) % T) = nI T - 1 := by
          rw [ps_p1 (by omega)]
          refine congrArg nI ?_
          rcases hT with e | e <;> subst e <;> omega
        rw [← g]; exact he
      · have g : nI ((f + T - 1) % T) = nI f - 1 := by
          rw [ps_p1 (by omega)]
          refine congrArg nI ?_
          rcases hT with e | e <;> subst e <;> omega
        rw [← g]; exact he
    · have ei : (nI i).toNatClampNeg = i := nI_clamp (by omega)
      have ii : vp_in (nI i) 4 := vp_in_nI (by omega) (by decide)
      refine ps_if (d := i = f) (nI_eq (by omega) (by omega)) (fun z => ?_) (fun z => ?_)
      · exact And.intro ii (And.intro ii (nm_r (e' := ps_hu f hl (i + 1)) (by rw [ei, ps_hu_s, if_pos z]) (nm_r (nI_1 i) (ih (i + 1) (by omega) (by omega)))))
      · exact And.intro ii (And.intro ii (nm_r (e' := ps_hu f hl (i + 1)) (by rw [ei, ps_hu_s, if_neg z]) (nm_r (nI_1 i) (ih (i + 1) (by omega) (by omega)))))
theorem py_79 {yT yW yA yg yc yo yL : Int32} {K V N ins row hl : Nat → Int32} {post : Int32 → SY → Prop} {b s n : Nat} (hb : b < 4) (hs : hl b = nI s) (s1 : s < 1000) (n1 : 1 ≤ n) (n2 : n < 1000)
    (h0 : 1 ≤ s → post 0 (yT, yW, yA, yg, yc, nI n, yo, yL, K, V, N, ins, row, hl)) (h5 : s = 0 → n = 1 → post 5 (yT, yW, yA, 2, yc, nI (n - 1), yo, -1, K, V, N, ins, row, hl)) (h4 : s = 0 → 2 ≤ n → post 4 (yT, yW, yA, yg, yc, nI (n - 1), nI b, yL, K, V, N, ins, row, hl)) : wY_mergeOne_79 post (nI b) yT yW yA yg yc (nI n) yo yL K V N ins row hl := by
  have eb : (nI b).toNatClampNeg = b := nI_clamp (by omega)
  refine And.intro (vp_in_nI hb (by decide)) (ps_if (d := s ≤ 0) (by rw [eb, hs]; exact nI_leI (b := 0) (by omega) (by omega)) (fun z => ?_) (fun z => h0 (by omega)))
  refine nm_r (ps_p1 n1) (ps_if (d := n - 1 = 0) (nI_eq (b := 0) (by omega) (by omega)) (fun y => h5 (by omega) (by omega)) (fun y => h4 (by omega) (by omega)))
/-! the component's step -/
theorem px_mo {wS rL rC gR hd lW ur cR : Int32} {K V N nx ws fo pr rs fs rc mh : Nat → Int32} {post : Int32 → SX → Prop} {T c n f s : Nat} {fsN rcN own : Nat → Nat} (hT : ps_T34 T) (hc : c ≤ 64) (hf : f < T) (n1 : 1 ≤ n) (n2 : n < 1000) (hfr : ∀ t, t < 4 → fs t = nI (fsN t) ∧ fsN t < 32 ∧ rc t = nI (rcN t)) (h1 : ∀ t, t < T → t ≠ f → 1 ≤ rcN t) (hr : ∀ t, t < 4 → rcN t ≤ 31)
    (O : ps_Own c (ps_L K) own (ps_live fsN rcN) nx rs) (hs : ps_r1 T f rcN ((f + T - 1) % T) = s)
    (hp : ∀ (own' : Nat → Nat) (nx' rs' fs' rc' mh' : Nat → Int32), (∀ t, t < 4 → fs' t = nI (ps_f1 T f fsN t)) → (∀ t, t < 4 → rc' t = nI (ps_r1 T f rcN t)) → ps_Own c (ps_L K) own' (ps_live (ps_f1 T f fsN) (ps_r1 T f rcN)) nx' rs' →
      (1 ≤ s → post 0 (nI T, wS, rL, 1, rC, gR, hd, lW, nI n, nI f, ur, cR, K, V, N, nx', ws, fo, pr, rs', fs', rc', mh')) ∧ (s = 0 → n = 1 → post 5 (nI T, wS, rL, 2, rC, gR, hd, lW, nI (n - 1), nI f, rs' (f * 32 + ps_f1 T f fsN f), -1, K, V, N, nx', ws, fo, pr, rs', fs', rc', mh')) ∧ (s = 0 → 2 ≤ n → post 4 (nI T, wS, rL, 1, rC, gR, hd, lW, nI (n - 1), nI ((f + T - 1) % T), ur, cR, K, V, N, nx', ws, fo, pr, rs', fs', rc', mh'))) :
    wpX_mergeOne post (nI T, wS, rL, 1, rC, gR, hd, lW, nI n, nI f, ur, cR, K, V, N, nx, ws, fo, pr, rs, fs, rc, mh) := by
  have t4 := ps_T4 hT
  refine br_t rfl ?_
  refine px_mf (by omega) hc hf hfr h1 hr O (fun own' nx' rs' fs' rc' mh' a b O' => ?_)
  obtain ⟨g0, g5, g4⟩ := hp own' nx' rs' fs' rc' mh' a b O'
  have hb : (f + T - 1) % T < T := Nat.mod_lt _ (by omega)
  have f1 : ps_f1 T f fsN f = fsN f := by unfold ps_f1; rw [if_neg (by omega)]
  have f32 : fsN f < 32 := (hfr f (by omega)).2.1
  have e1 : (nI f + nI T) - 1 = nI (f + T - 1) := by rw [nI_add, ps_p1 (by omega)]
  have sb : s ≤ 32 := by
    rw [← hs]
    unfold ps_r1
    have := hr ((f + T - 1) % T) (by omega)
    split
    · omega
    · omega
  refine And.intro (nI_ne0 (by omega) (by omega)) (nm_r (e' := nI ((f + T - 1) % T)) (by rw [e1]; exact pk_rem (by omega) (by omega) (by omega)) ?_)
  have eb : (nI ((f + T - 1) % T)).toNatClampNeg = (f + T - 1) % T := nI_clamp (by omega)
  refine And.intro (vp_in_nI (by omega) (by decide)) (ps_if (d := s ≤ 0) (by rw [eb, b _ (by omega), hs]; exact nI_leI (b := 0) (by omega) (by omega)) (fun z => ?_) (fun z => g0 (by omega)))
  refine nm_r (ps_p1 n1) (ps_if (d := n - 1 = 0) (nI_eq (b := 0) (by omega) (by omega)) (fun y => ?_) (fun y => g4 (by omega) (by omega)))
  exact px_es (by omega) (a f (by omega)) (by rw [f1]; exact f32) (g5 (by omega) (by omega))
theorem ps_step1 {e : Nat} {u : SX} {v : SY} (I : ps_RMe e u v) : e ≤ 24 ∧ ∃ (r : Int32) (v' : SY), (∀ post : Int32 → SY → Prop, post r v' → wpY_mergeOne post v) ∧
    (∀ post : Int32 → SX → Prop, (∀ u', ((r = 0 ∧ ps_RMe (e - 1) u' v' ∧ 2 ≤ e) ∨ (r = 4 ∧ ps_RM u' v') ∨ (r = 5 ∧ ps_RS u' v')) → post r u') → wpX_mergeOne post u) := by
  obtain ⟨T, W, A, c, R, n, f, d, rn, fsN, rcN, own, lW, K, V, N, nx, ws, fo, pr, rs, fs, rc, mh, ins, row, hl, HC, HM, hin, rfl, rfl⟩ := I
  have hh := ps_hN HC
  have hT := HC.1
  have t4 := ps_T4 hT
  obtain ⟨n1, nT, hf, ⟨he, e1⟩, hRc, hz, hfr, hhl, O⟩ := HM
  have pab := ps_pab hT nT (T - 2)
  have cb := ps_cb hT hf hRc
  have tt := ps_tt1 hT n1 nT
  have h1 : ∀ t, t < T → t ≠ f → 1 ≤ rcN t := by
    intro t ht tf
    have a := ps_ci hT hf ht tf
    have b := tt.2 _ a
    rw [hRc t ht, if_neg tf]
    omega
  have hr : ∀ t, t < 4 → rcN t ≤ 31 := by
    intro t ht
    by_cases g : t < T
    · have a := ps_pab hT nT ((t + T - f - 1) % T)
      rw [hRc t g]
      split <;> omega
    · rw [hz t (by omega) ht]; omega
  have hs : ps_r1 T f rcN ((f + T - 1) % T) = e - 1 := by
    unfold ps_r1
    rw [if_neg cb.2.1, if_pos cb.1, cb.2.2]
    omega
  have hRc' : ps_Rc T n f (d + 1) (ps_r1 T f rcN) := by
    refine ps_RcM hf hRc (fun t ht => ?_)
    unfold ps_r1
    by_cases g : t = f
    · rw [if_pos g, if_pos g]
    · rw [if_neg g, if_neg g, if_pos ht]
  have hz' : ∀ t, T ≤ t → t < 4 → ps_r1 T f rcN t = 0 := by
    intro t tT ht
    unfold ps_r1
    rw [if_neg (by omega), if_neg (by omega)]
    exact hz t tT ht
  have hl' : ∀ t, t < T → ps_hu f hl T t = nI (ps_r1 T f rcN t) := by
    intro t ht
    rw [(ps_hu_v f hl T t).1 ht, hhl t ht]
    unfold ps_r1
    by_cases g : t = f
    · rw [if_pos g, if_pos g, nI_1]
    · rw [if_neg g, if_neg g, if_pos ht, ps_p1 (h1 t ht g)]
  have f1 : ∀ t, t < 4 → ps_f1 T f fsN t < 32 := by
    intro t ht
    unfold ps_f1
    have := (hfr t ht).2.1
    split <;> omega
  refine ⟨by omega, ?_⟩
  by_cases e2 : 2 ≤ e
  · refine ⟨0, (nI T, nI W, nI A, 1, nI c, nI n, nI f, -1, K, V, N, ins, row, ps_hu f hl T), fun post hp => ?_, fun post hp => ?_⟩
    · exact br_t rfl (Exists.intro (T + 1) (py_12 hT hf (py_79 (by omega) (hl' _ cb.1) (by rw [hs]; omega) n1 (by omega) (fun _ => hp) (fun z => by rw [hs] at z; omega) (fun z => by rw [hs] at z; omega)) (T + 1) 0 (by omega) (by omega)))
    · refine px_mo hT hh.1 hf n1 (by omega) hfr h1 hr O hs (fun own' nx' rs' fs' rc' mh' a b O' => ⟨fun _ => hp _ (Or.inl ⟨rfl, ?_, e2⟩), fun z => by omega, fun z => by omega⟩)
      exact ⟨T, W, A, c, R, n, f, d + 1, rn, ps_f1 T f fsN, ps_r1 T f rcN, own', lW, K, V, N, nx', ws, fo, pr, rs', fs', rc', mh', ins, row, ps_hu f hl T, HC, ⟨n1, nT, hf, ⟨by omega, by omega⟩, hRc', hz', fun t ht => ⟨a t ht, f1 t ht, b t ht⟩, hl', O'⟩, hin, rfl, rfl⟩
  · have e0 : e = 1 := by omega
    have ed : d + 1 = ps_pa T n (T - 2) := by omega
    obtain ⟨n', rfl⟩ : ∃ n', n = n' + 1 := ⟨n - 1, by omega⟩
    have hRcP : ps_Rc T n' ((f + T - 1) % T) 0 (ps_r1 T f rcN) := ps_RcP hT nT hf (ed ▸ hRc')
    by_cases n0 : n' = 0
    · subst n0
      refine ⟨5, (nI T, nI W, nI A, 2, nI c, nI 0, nI f, -1, K, V, N, ins, row, ps_hu f hl T), fun post hp => ?_, fun post hp => ?_⟩
      · exact br_t rfl (Exists.intro (T + 1) (py_12 hT hf (py_79 (by omega) (hl' _ cb.1) (by rw [hs]; omega) n1 (by omega) (fun z => by rw [hs] at z; omega) (fun _ _ => hp) (fun _ z => by omega)) (T + 1) 0 (by omega) (by omega)))
      · refine px_mo hT hh.1 hf n1 (by omega) hfr h1 hr O hs (fun own' nx' rs' fs' rc' mh' a b O' => ⟨fun z => by omega, fun _ _ => hp _ (Or.inr (Or.inr ⟨rfl, ?_⟩)), fun _ z => by omega⟩)
        have r0 := ps_Rc0 hT hf hRcP
        have ff := f1 f (by omega)
        have l0 : ps_live (ps_f1 T f fsN) (ps_r1 T f rcN) (f * 32 + ps_f1 T f fsN f) := by
          have g : (f * 32 + ps_f1 T f fsN f) / 32 = f := by omega
          refine ⟨by omega, ?_⟩
          rw [g, r0.1]
          omega
        have l1 : ∀ s, ps_live (ps_f1 T f fsN) (ps_r1 T f rcN) s → s = f * 32 + ps_f1 T f fsN f := by
          intro s hs2
          obtain ⟨s1, s2⟩ := hs2
          by_cases g : s / 32 = f
          · rw [g, r0.1] at s2
            omega
          · exfalso
            by_cases y : s / 32 < T
            · rw [r0.2 _ y g] at s2; exact absurd s2 (Nat.not_lt_zero _)
            · rw [hz' _ (by omega) (by omega)] at s2; exact absurd s2 (Nat.not_lt_zero _)
        have S := ps_toS O' l0 l1
        refine ⟨-1, T, W, A, c, R, f, ps_f1 T f fsN f, rn, rs' (f * 32 + ps_f1 T f fsN f), lW, K, V, N, nx', ws, fo, pr, rs', fs', rc', mh', ins, row, ps_hu f hl T, HC, ⟨hf, ff, a f (by omega), fun t ht => ?_, S.1, S.2, Or.inl rfl, ?_⟩, hin, rfl, rfl⟩
        · rw [b t (by omega), hl' t ht]
        · exact ps_mi_c (fun y => ⟨fun z => ⟨z, Or.inl rfl⟩, fun z => z.1⟩) S.1
    · refine ⟨4, (nI T, nI W, nI A, 1, nI c, nI n', nI ((f + T - 1) % T), -1, K, V, N, ins, row, ps_hu f hl T), fun post hp => ?_, fun post hp => ?_⟩
      · exact br_t rfl (Exists.intro (T + 1) (py_12 hT hf (py_79 (by omega) (hl' _ cb.1) (by rw [hs]; omega) n1 (by omega) (fun z => by rw [hs] at z; omega) (fun _ z => by omega) (fun _ _ => hp)) (T + 1) 0 (by omega) (by omega)))
      · refine px_mo hT hh.1 hf n1 (by omega) hfr h1 hr O hs (fun own' nx' rs' fs' rc' mh' a b O' => ⟨fun z => by omega, fun _ z => by omega, fun _ _ => hp _ (Or.inr (Or.inl ⟨rfl, ?_⟩))⟩)
        exact ⟨ps_pa T n' (T - 2), T, W, A, c, R, n', (f + T - 1) % T, 0, rn, ps_f1 T f fsN, ps_r1 T f rcN, own', lW, K, V, N, nx', ws, fo, pr, rs', fs', rc', mh', ins, row, ps_hu f hl T, HC, ⟨by omega, by omega, cb.1, ⟨by omega, (ps_tt1 hT (by omega) (by omega)).1⟩, hRcP, hz', fun t ht => ⟨a t ht, f1 t ht, b t ht⟩, hl', O'⟩, hin, rfl, rfl⟩
theorem i_vc_mergeOne {k : Nat} {u : SX} {v : SY} (I : i_Rel k u v) (hk : k + 3 ≤ 1539) : wpX_mergeOne (fun r u' => wpY_mergeOne (fun r' v' => r' = r ∧ i_Rel (k + 3) u' v') v) u := by
  have I' := I
  rcases I with I | I | I
  · obtain ⟨T, W, A, c, R, h, rn, w, wr, lW, yl, yo, K, V, N, nx, ws, fo, pr, rs, fs, rc, mh, ins, row, hl, HC, HF, rfl, rfl⟩ := I
    exact br_f (by decide) (br_f (by decide) ⟨rfl, I'⟩)
  · obtain ⟨e, I⟩ := I
    obtain ⟨_, r, v', hY, hX⟩ := ps_step1 I
    refine hX _ (fun u' hu => hY _ ⟨rfl, ?_⟩)
    rcases hu with ⟨_, h, _⟩ | ⟨_, h⟩ | ⟨_, h⟩
    · exact Or.inr (Or.inl ⟨_, h⟩)
    · exact Or.inr (Or.inl h)
    · exact Or.inr (Or.inr h)
  · obtain ⟨la, T, W, A, c, R, f, p, rn, ur, lW, K, V, N, nx, ws, fo, pr, rs, fs, rc, mh, ins, row, hl, HC, HS, hin, rfl, rfl⟩ := I
    exact br_f (by decide) (br_f (by decide) ⟨rfl, I'⟩)
def px_MP (post : Int32 → SX → Prop) (n : Nat) (r x : Int32) (u : SX) : Prop := match u with
  | (tT, wS, rL, sg, rC, gR, hd, lW, lv, oN, ur, cR, K, V, N, nx, ws, fo, pr, rs, fs, rc, mh) => wX_mergePhase_7 post n r x tT wS rL sg rC gR hd lW lv oN ur cR K V N nx ws fo pr rs fs rc mh
def py_MP (post : Int32 → SY → Prop) (n : Nat) (r x : Int32) (v : SY) : Prop := match v with
  | (yT, yW, yA, yg, yc, yl, yo, yL, K, V, N, ins, row, hl) => wY_mergePhase_4 post n r x yT yW yA yg yc yl yo yL K V N ins row hl
theorem ps_mpl {k : Nat} (v0 : SY) : ∀ (m i : Nat) (r : Int32) (u : SX) (v : SY), 32 - i < m → i ≤ 32 → ((r = 0 ∧ ∃ e, ps_RMe e u v ∧ e + i ≤ 23) ∨ (¬ r = 0 ∧ i_Rel (k + 3) u v)) →
    (∀ post : Int32 → SY → Prop, py_MP post (63 - i) r (nI (i + 1)) v → wpY_mergePhase post v0) → px_MP (fun r u' => wpY_mergePhase (fun r' v' => r' = r ∧ i_Rel (k + 3) u' v') v0) m r (nI i) u := by
  intro m
  induction m with
  | zero => intro i r u v h; omega
  | succ m ih =>
    intro i r u v hm hi Q H
    obtain ⟨tT, wS, rL, sg, rC, gR, hd, lW, lv, oN, ur, cR, K, V, N, nx, ws, fo, pr, rs, fs, rc, mh⟩ := u
    obtain ⟨yT, yW, yA, yg, yc, yl, yo, yL, JK, JV, JN, ins, row, hl⟩ := v
    have ef : 63 - i = (62 - i) + 1 := by omega
    by_cases r0 : r = 0
    · obtain ⟨e, I, ei⟩ : ∃ e, ps_RMe e (tT, wS, rL, sg, rC, gR, hd, lW, lv, oN, ur, cR, K, V, N, nx, ws, fo, pr, rs, fs, rc, mh) (yT, yW, yA, yg, yc, yl, yo, yL, JK, JV, JN, ins, row, hl) ∧ e + i ≤ 23 := by
        rcases Q with ⟨_, q⟩ | ⟨q, _⟩
        · exact q
        · exact absurd r0 q
      clear Q
      obtain ⟨_, r', v', hY, hX⟩ := ps_step1 I
      refine br_f (nI_ge (b := 32) (by omega) (by decide)) (br_t r0 (hX _ (fun u' hu => ?_)))
      have R := ih (i + 1) r' u' v' (by omega) (by omega) (by
        rcases hu with ⟨a, h, _⟩ | ⟨a, h⟩ | ⟨a, h⟩
        · exact Or.inl ⟨a, e - 1, h, by omega⟩
        · exact Or.inr ⟨by rw [a]; decide, Or.inr (Or.inl h)⟩
        · exact Or.inr ⟨by rw [a]; decide, Or.inr (Or.inr h)⟩) (fun post hp => by
          refine H post ?_
          rw [ef]
          refine br_f (nI_ge (b := 64) (by omega) (by decide)) (br_t r0 (hY _ ?_))
          obtain ⟨yT', yW', yA', yg', yc', yl', yo', yL', JK', JV', JN', ins', row', hl'⟩ := v'
          have e2 : 63 - (i + 1) = 62 - i := by omega
          rw [e2] at hp
          exact nm_r (nI_1 (i + 1)) hp)
      obtain ⟨tT', wS', rL', sg', rC', gR', hd', lW', lv', oN', ur', cR', K', V', N', nx', ws', fo', pr', rs', fs', rc', mh'⟩ := u'
      exact nm_r (nI_1 i) R
    · have rel : i_Rel (k + 3) (tT, wS, rL, sg, rC, gR, hd, lW, lv, oN, ur, cR, K, V, N, nx, ws, fo, pr, rs, fs, rc, mh) (yT, yW, yA, yg, yc, yl, yo, yL, JK, JV, JN, ins, row, hl) := by
        rcases Q with ⟨q, _⟩ | ⟨_, q⟩
        · exact absurd q r0
        · exact q
      have P : wpY_mergePhase (fun r' v' => r' = r ∧ i_Rel (k + 3) (tT, wS, rL, sg, rC, gR, hd, lW, lv, oN, ur, cR, K, V, N, nx, ws, fo, pr, rs, fs, rc, mh) v') v0 := by
        refine H _ ?_
        rw [ef]
        exact br_c (fun _ => ⟨rfl, rel⟩) (fun _ => br_f r0 ⟨rfl, rel⟩)
      exact br_c (fun _ => P) (fun _ => br_f r0 P)
theorem i_vc_mergePhase {k : Nat} {u : SX} {v : SY} (I : i_Rel k u v) (hk : k + 3 ≤ 1539) : wpX_mergePhase (fun r u' => wpY_mergePhase (fun r' v' => r' = r ∧ i_Rel (k + 3) u' v') v) u := by
  have I' := I
  rcases I with I | I | I
  · obtain ⟨T, W, A, c, R, h, rn, w, wr, lW, yl, yo, K, V, N, nx, ws, fo, pr, rs, fs, rc, mh, ins, row, hl, HC, HF, rfl, rfl⟩ := I
    unfold wpX_mergePhase
    exact br_f (by decide) (Exists.intro 1 (br_f (by decide) (br_f (by decide) (Exists.intro 2 (br_f (by decide) (br_t rfl (br_f (by decide) (nm_e (br_f (by decide) (br_f (by decide) ⟨rfl, I'⟩))))))))))
  · obtain ⟨e, I⟩ := I
    have S := ps_step1 I
    obtain ⟨e24, r, v', hY, hX⟩ := S
    have H : ∀ post : Int32 → SY → Prop, py_MP post (63 - 0) r (nI (0 + 1)) v' → wpY_mergePhase post v := by
      intro post hp
      obtain ⟨T, W, A, c, R, n, f, d, rn, fsN, rcN, own, lW, K, V, N, nx, ws, fo, pr, rs, fs, rc, mh, ins, row, hl, HC, HM, hin, rfl, rfl⟩ := I
      refine Exists.intro 64 (br_f (by decide) (br_t rfl (hY _ ?_)))
      obtain ⟨yT', yW', yA', yg', yc', yl', yo', yL', JK', JV', JN', ins', row', hl'⟩ := v'
      exact nm_r (nI_1 0) hp
    have G : ∀ u', ((r = 0 ∧ ps_RMe (e - 1) u' v' ∧ 2 ≤ e) ∨ (r = 4 ∧ ps_RM u' v') ∨ (r = 5 ∧ ps_RS u' v')) → px_MP (fun r u' => wpY_mergePhase (fun r' v' => r' = r ∧ i_Rel (k + 3) u' v') v) 33 r (nI 0) u' := by
      intro u' hu
      refine ps_mpl v 33 0 r u' v' (by omega) (by omega) ?_ H
      rcases hu with ⟨a, h, _⟩ | ⟨a, h⟩ | ⟨a, h⟩
      · exact Or.inl ⟨a, e - 1, h, by omega⟩
      · exact Or.inr ⟨by rw [a]; decide, Or.inr (Or.inl h)⟩
      · exact Or.inr ⟨by rw [a]; decide, Or.inr (Or.inr h)⟩
    obtain ⟨T, W, A, c, R, n, f, d, rn, fsN, rcN, own, lW, K, V, N, nx, ws, fo, pr, rs, fs, rc, mh, ins, row, hl, HC, HM, hin, rfl, rfl⟩ := I
    unfold wpX_mergePhase
    refine hX _ (fun u' hu => ?_)
    have g := G u' hu
    obtain ⟨tT', wS', rL', sg', rC', gR', hd', lW', lv', oN', ur', cR', K', V', N', nx', ws', fo', pr', rs', fs', rc', mh'⟩ := u'
    exact Exists.intro 33 g
  · obtain ⟨la, T, W, A, c, R, f, p, rn, ur, lW, K, V, N, nx, ws, fo, pr, rs, fs, rc, mh, ins, row, hl, HC, HS, hin, rfl, rfl⟩ := I
    unfold wpX_mergePhase
    exact br_f (by decide) (Exists.intro 1 (br_f (by decide) (br_f (by decide) (Exists.intro 2 (br_f (by decide) (br_t rfl (br_f (by decide) (nm_e (br_f (by decide) (br_f (by decide) ⟨rfl, I'⟩))))))))))
