/-! finish, the reference's side, and the case. -/
theorem ps_tt1 {T n : Nat} (hT : ps_T34 T) (h1 : 1 ≤ n) (hn : n + T ≤ 10) : 1 ≤ ps_pa T n (T - 2) ∧ (∀ j, j + 1 < T → ps_pa T n (T - 2) ≤ ps_pa T n j) := by
  rcases hT with e | e
  · subst e
    have t := ps_tab3 n (by omega)
    refine ⟨by show 1 ≤ ps_pa 3 n 1; omega, fun j hj => ?_⟩
    show ps_pa 3 n 1 ≤ ps_pa 3 n j
    have c : j = 0 ∨ j = 1 := by omega
    rcases c with c | c <;> subst c <;> omega
  · subst e
    have t := ps_tab4 n (by omega)
    refine ⟨by show 1 ≤ ps_pa 4 n 2; omega, fun j hj => ?_⟩
    show ps_pa 4 n 2 ≤ ps_pa 4 n j
    have c : j = 0 ∨ j = 1 ∨ j = 2 := by omega
    rcases c with c | c | c <;> subst c <;> omega
theorem py_176 {yW yA yg yc yo yL : Int32} {K V N ins row : Nat → Int32} {post : Int32 → SY → Prop} {T n : Nat} (hT : ps_T34 T) (hn : n + T ≤ 10) (hrow : ∀ j, 1 ≤ j → j < 5 → row j = nI (ps_pa T n (j - 1)))
    (h0 : ∀ hl : Nat → Int32, (∀ t, t < T → hl t = nI (ps_pa T n t)) → n = 0 → post 5 (nI T, yW, yA, 2, yc, nI n, 0, -1, K, V, N, ins, row, hl))
    (h1 : ∀ hl : Nat → Int32, (∀ t, t < T → hl t = nI (ps_pa T n t)) → ¬ n = 0 → post 0 (nI T, yW, yA, 1, yc, nI n, nI (T - 1), -1, K, V, N, ins, row, hl)) :
    ∀ m i (hl : Nat → Int32), 1 ≤ i → i ≤ T → T - i < m → (∀ t, t + 1 < i → hl t = nI (ps_pa T n t)) → wY_finish_176 post (nI T) yW yA yg yc (nI n) yo yL m (nI i) K V N ins row hl := by
  have t4 := ps_T4 hT
  have e1 : nI T - 1 = nI (T - 1) := ps_p1 (by omega)
  intro m
  induction m with
  | zero => intro i hl _ _ h; omega
  | succ m ih =>
    intro i hl i1 iT hm hh
    refine ps_if (d := T ≤ i) (nI_leI (by omega) (by omega)) (fun q => ?_) (fun q => ?_)
    · have hl' : ∀ t, t < T → upd hl (T - 1) 0 t = nI (ps_pa T n t) := by
        intro t ht
        by_cases e : t = T - 1
        · rw [e, pk_us, ps_pa_0 hT (by omega)]; rfl
        · rw [pk_un e]; exact hh t (by omega)
      refine And.intro (by rw [e1]; exact vp_in_nI (by omega) (by decide)) (nm_r (e' := upd hl (T - 1) 0) (by rw [e1, nI_clamp (by omega)]) ?_)
      have en : (nI n = 0 ↔ n = 0) := nI_eq (b := 0) (by omega) (by omega)
      refine ps_if en (fun z => ?_) (fun z => ?_)
      · have zz : nI n = 0 := en.2 z
        exact br_t zz (br_t zz (h0 _ hl' z))
      · have zz : ¬ nI n = 0 := fun y => z (en.1 y)
        refine br_f zz ?_
        rw [e1]
        exact br_f zz (h1 _ hl' z)
    · have ei : (nI i).toNatClampNeg = i := nI_clamp (by omega)
      have ep : nI i - 1 = nI (i - 1) := ps_p1 i1
      refine And.intro (vp_in_nI (by omega) (by decide)) (And.intro (by rw [ep]; exact vp_in_nI (by omega) (by decide)) (nm_r (e' := upd hl (i - 1) (nI (ps_pa T n (i - 1)))) (by rw [ep, nI_clamp (by omega), ei, hrow i i1 (by omega)]) (nm_r (nI_1 i) (ih (i + 1) _ (by omega) (by omega) (by omega) (fun t ht => ?_)))))
      by_cases e : t = i - 1
      · rw [e, pk_us]
      · rw [pk_un e]; exact hh t (by omega)
theorem py_124 {yW yA yg yc yo yL : Int32} {K V N ins hl : Nat → Int32} {post : Int32 → SY → Prop} {J : Int32 → Int32 → (Nat → Int32) → (Nat → Int32) → (Nat → Int32) → (Nat → Int32) → (Nat → Int32) → (Nat → Int32) → Prop} {x1 : Int32} {T n i0 : Nat} (hT : ps_T34 T)
    (hJ : ∀ row : Nat → Int32, (∀ j, 1 ≤ j → j < 5 → row j = nI (ps_pa T (n + 1) (j - 1))) → J (nI (i0 + 1)) (nI (n + 1)) K V N ins row hl) :
    ∀ m i (row : Nat → Int32), 1 ≤ i → i ≤ T → T - i < m → (∀ j, 1 ≤ j → j < i → row j = nI (ps_pa T (n + 1) (j - 1))) → (∀ j, i ≤ j → j < 5 → row j = nI (ps_pa T n (j - 1))) → wY_finish_124 post J x1 (nI i0) (nI (ps_pa T n 0)) (nI T) yW yA yg yc (nI n) yo yL m (nI i) K V N ins row hl := by
  have t4 := ps_T4 hT
  intro m
  induction m with
  | zero => intro i row _ _ h; omega
  | succ m ih =>
    intro i row i1 iT hm h0 h1
    refine ps_if (d := T ≤ i) (nI_leI (by omega) (by omega)) (fun q => ?_) (fun q => ?_)
    · refine nm_r (nI_1 n) (nm_r (nI_1 i0) (hJ row (fun j j1 j5 => ?_)))
      by_cases e : j < i
      · exact h0 j j1 e
      · rw [h1 j (by omega) j5, ps_pa_0 hT (by omega), ps_pa_0 hT (by omega)]
    · have ei : (nI i).toNatClampNeg = i := nI_clamp (by omega)
      have en : (nI i + 1).toNatClampNeg = i + 1 := by rw [nI_1]; exact nI_clamp (by omega)
      have v : nI (ps_pa T n 0) + row (i + 1) = nI (ps_pa T (n + 1) (i - 1)) := by
        rw [h1 (i + 1) (by omega) (by omega), nI_add, ps_pa_s, if_pos (by omega)]
        have : i + 1 - 1 = i - 1 + 1 := by omega
        rw [this]
      refine And.intro (by rw [nI_1]; exact vp_in_nI (by omega) (by decide)) (And.intro (vp_in_nI (by omega) (by decide)) (nm_r (e' := upd row i (nI (ps_pa T (n + 1) (i - 1)))) (by rw [en, ei, v]) (nm_r (nI_1 i) (ih (i + 1) _ (by omega) (by omega) (by omega) (fun j j1 ji => ?_) (fun j ji j5 => ?_)))))
      · by_cases e : j = i
        · rw [e, pk_us]
        · rw [pk_un e]; exact h0 j j1 (by omega)
      · rw [pk_un (by omega)]; exact h1 j (by omega) j5
theorem py_80 {yW yA yg yc yo yL : Int32} {K V N ins row hl : Nat → Int32} {post : Int32 → SY → Prop} {J : Int32 → Int32 → (Nat → Int32) → (Nat → Int32) → (Nat → Int32) → (Nat → Int32) → (Nat → Int32) → (Nat → Int32) → Prop} {x2 : Int32} {T n R : Nat} (hT : ps_T34 T) (hn : n + T ≤ 10) (hR : R ≤ 32) (hrow : ∀ j, 1 ≤ j → j < 5 → row j = nI (ps_pa T n (j - 1)))
    (hl1 : ps_tt T n < R → ∃ n124 : Nat, wY_finish_124 post J (nI R) x2 (nI (ps_pa T n 0)) (nI T) yW yA yg yc (nI n) yo yL n124 1 K V N ins row hl)
    (hl2 : ¬ ps_tt T n < R → ∃ n176 : Nat, wY_finish_176 post (nI T) yW yA yg yc (nI n) yo yL n176 1 K V N ins row hl) :
    ∀ m i, 1 ≤ i → i ≤ T → T - i < m → wY_finish_80 post J (nI R) x2 (nI T) yW yA yg yc (nI n) yo yL K V N ins row hl m (nI (ps_sm T n (i - 1))) (nI i) := by
  have t4 := ps_T4 hT
  have tb := ps_ttb hT hn
  intro m
  induction m with
  | zero => intro i _ _ h; omega
  | succ m ih =>
    intro i i1 iT hm
    refine ps_if (d := T ≤ i) (nI_leI (by omega) (by omega)) (fun q => ?_) (fun q => ?_)
    · have e : i = T := by omega
      rw [e, ps_sm_tt hT]
      refine ps_if (d := ps_tt T n < R) (nI_ltI (by omega) (by omega)) (fun z => ?_) hl2
      exact nm_r (hrow 1 (by omega) (by omega)) (hl1 z)
    · have ei : (nI i).toNatClampNeg = i := nI_clamp (by omega)
      have s := ih (i + 1) (by omega) (by omega) (by omega)
      have ee : i + 1 - 1 = i - 1 + 1 := by omega
      rw [ee] at s
      refine And.intro (vp_in_nI (by omega) (by decide)) (nm_r (e' := nI (ps_sm T n (i - 1 + 1))) (by rw [ei, hrow i i1 (by omega), nI_add]; rfl) (nm_r (nI_1 i) s))
theorem py_69 {yW yA yg yc yo yL : Int32} {K V N ins : Nat → Int32} {post : Int32 → SY → Prop} {T n R : Nat} (hT : ps_T34 T) (hn : n + T ≤ 10) (hR : R ≤ 32) (hR1 : R ≤ ps_tt T n) (hR2 : ∀ m, m < n → ps_tt T m < R) (hl : Nat → Int32)
    (h0 : ∀ row hl : Nat → Int32, (∀ t, t < T → hl t = nI (ps_pa T n t)) → n = 0 → post 5 (nI T, yW, yA, 2, yc, nI n, 0, -1, K, V, N, ins, row, hl))
    (h1 : ∀ row hl : Nat → Int32, (∀ t, t < T → hl t = nI (ps_pa T n t)) → ¬ n = 0 → post 0 (nI T, yW, yA, 1, yc, nI n, nI (T - 1), -1, K, V, N, ins, row, hl)) :
    ∀ m i (row : Nat → Int32), i ≤ n → n - i < m → (∀ j, 1 ≤ j → j < 5 → row j = nI (ps_pa T i (j - 1))) → wY_finish_69 post (nI R) (nI T) yW yA yg yc yo yL m (nI i) (nI i) K V N ins row hl := by
  have t4 := ps_T4 hT
  intro m
  induction m with
  | zero => intro i row _ h; omega
  | succ m ih =>
    intro i row hi hm hrow
    refine br_f (nI_ge (b := 8) (by omega) (by decide)) (Exists.intro T (py_80 hT (by omega) hR hrow (fun z => ?_) (fun z => ?_) T 1 (by omega) (by omega) (by omega)))
    · have il : i < n := by
        by_cases e : i = n
        · rw [e] at z; omega
        · omega
      exact Exists.intro T (py_124 hT (fun row' h' => ih (i + 1) row' (by omega) (by omega) h') T 1 row (by omega) (by omega) (by omega) (fun j a b => by omega) (fun j a b => hrow j a b))
    · have e : i = n := by
        by_cases e : i = n
        · exact e
        · have := hR2 i (by omega); omega
      subst e
      exact Exists.intro T (py_176 hT hn hrow (fun hl' a b => h0 row hl' a b) (fun hl' a b => h1 row hl' a b) T 1 hl (by omega) (by omega) (by omega) (fun t ht => by omega))
theorem py_32 {yW yA yg yl yo yL : Int32} {K V N ins hl : Nat → Int32} {post : Int32 → SY → Prop} {T c n R : Nat} {rn : Nat → Nat} (hT : ps_T34 T) (hn : n + T ≤ 10) (hR : R ≤ 32) (hR1 : R ≤ ps_tt T n) (hR2 : ∀ m, m < n → ps_tt T m < R) (hc : c ≤ 64) (hN : ∀ x, x < c → N x = nI (rn x)) (hRn : ps_Rn c R rn)
    (h0 : ∀ row hl : Nat → Int32, (∀ t, t < T → hl t = nI (ps_pa T n t)) → n = 0 → post 5 (nI T, yW, yA, 2, nI c, nI n, 0, -1, K, V, N, ins, row, hl))
    (h1 : ∀ row hl : Nat → Int32, (∀ t, t < T → hl t = nI (ps_pa T n t)) → ¬ n = 0 → post 0 (nI T, yW, yA, 1, nI c, nI n, nI (T - 1), -1, K, V, N, ins, row, hl)) :
    ∀ m i (row : Nat → Int32), i ≤ 5 → 5 - i < m → (∀ j, j < i → row j = 0) → wY_finish_32 post (nI T) yW yA yg (nI c) yl yo yL m (nI i) K V N ins row hl := by
  intro m
  induction m with
  | zero => intro i row _ h; omega
  | succ m ih =>
    intro i row hi hm hz
    refine ps_if (d := 5 ≤ i) (nI_leI (a := 5) (by omega) (by omega)) (fun q => ?_) (fun q => ?_)
    · refine nm_e (py_rn hc hN hRn (Exists.intro (n + 1) (py_69 hT hn hR hR1 hR2 hl h0 h1 (n + 1) 0 (upd row 1 1) (by omega) (by omega) (fun j j1 j5 => ?_))))
      by_cases e : j = 1
      · rw [e, pk_us]; rfl
      · rw [pk_un e, hz j (by omega)]
        have : ps_pa T 0 (j - 1) = 0 := if_neg (by omega)
        rw [this]; rfl
    · refine And.intro (vp_in_nI (by omega) (by decide)) (nm_r (e' := upd row i 0) (by rw [nI_clamp (by omega)]) (nm_r (nI_1 i) (ih (i + 1) _ (by omega) (by omega) (fun j hj => ?_))))
      by_cases e : j = i
      · rw [e, pk_us]
      · rw [pk_un e]; exact hz j (by omega)
theorem py_11 {yW yA yg yl yo yL : Int32} {K V N row hl : Nat → Int32} {post : Int32 → SY → Prop} {T c n R : Nat} {rn : Nat → Nat} (hT : ps_T34 T) (hn : n + T ≤ 10) (hR : R ≤ 32) (hR1 : R ≤ ps_tt T n) (hR2 : ∀ m, m < n → ps_tt T m < R) (hc : c ≤ 64) (hN : ∀ x, x < c → N x = nI (rn x)) (hRn : ps_Rn c R rn)
    (h0 : ∀ ins row hl : Nat → Int32, (∀ x, x < 64 → ins x = 0) → (∀ t, t < T → hl t = nI (ps_pa T n t)) → n = 0 → post 5 (nI T, yW, yA, 2, nI c, nI n, 0, -1, K, V, N, ins, row, hl))
    (h1 : ∀ ins row hl : Nat → Int32, (∀ x, x < 64 → ins x = 0) → (∀ t, t < T → hl t = nI (ps_pa T n t)) → ¬ n = 0 → post 0 (nI T, yW, yA, 1, nI c, nI n, nI (T - 1), -1, K, V, N, ins, row, hl)) :
    ∀ m i (ins : Nat → Int32), i ≤ 64 → 64 - i < m → (∀ x, x < i → ins x = 0) → wY_finish_11 post (nI T) yW yA yg (nI c) yl yo yL m (nI i) K V N ins row hl := by
  intro m
  induction m with
  | zero => intro i ins _ h; omega
  | succ m ih =>
    intro i ins hi hm hz
    refine ps_if (d := 64 ≤ i) (nI_leI (a := 64) (by omega) (by omega)) (fun q => ?_) (fun q => ?_)
    · have z64 : ∀ x, x < 64 → ins x = 0 := fun x hx => hz x (by omega)
      exact Exists.intro 6 (py_32 hT hn hR hR1 hR2 hc hN hRn (fun row hl a b => h0 ins row hl z64 a b) (fun row hl a b => h1 ins row hl z64 a b) 6 0 row (by omega) (by omega) (fun j hj => absurd hj (Nat.not_lt_zero j)))
    · refine And.intro (vp_in_nI (by omega) (by decide)) (nm_r (e' := upd ins i 0) (by rw [nI_clamp (by omega), ps_vb0]) (nm_r (nI_1 i) (ih (i + 1) _ (by omega) (by omega) (fun x hx => ?_))))
      by_cases e : x = i
      · rw [e, pk_us]
      · rw [pk_un e]; exact hz x (by omega)
theorem py_fin {yW yA yl yo yL : Int32} {K V N ins row hl : Nat → Int32} {post : Int32 → SY → Prop} {T c n R : Nat} {rn : Nat → Nat} (hT : ps_T34 T) (hn : n + T ≤ 10) (hR : R ≤ 32) (hR1 : R ≤ ps_tt T n) (hR2 : ∀ m, m < n → ps_tt T m < R) (hc : c ≤ 64) (hN : ∀ x, x < c → N x = nI (rn x)) (hRn : ps_Rn c R rn)
    (h0 : ∀ ins row hl : Nat → Int32, (∀ x, x < 64 → ins x = 0) → (∀ t, t < T → hl t = nI (ps_pa T n t)) → n = 0 → post 5 (nI T, yW, yA, 2, nI c, nI n, 0, -1, K, V, N, ins, row, hl))
    (h1 : ∀ ins row hl : Nat → Int32, (∀ x, x < 64 → ins x = 0) → (∀ t, t < T → hl t = nI (ps_pa T n t)) → ¬ n = 0 → post 0 (nI T, yW, yA, 1, nI c, nI n, nI (T - 1), -1, K, V, N, ins, row, hl)) :
    wpY_finish post (nI T, yW, yA, 0, nI c, yl, yo, yL, K, V, N, ins, row, hl) :=
  br_t rfl (Exists.intro 65 (py_11 hT hn hR hR1 hR2 hc hN hRn h0 h1 65 0 ins (by omega) (by omega) (fun x h => absurd h (Nat.not_lt_zero x))))
/-! the case -/
theorem ps_FeedE {c R : Nat} {L : Nat → Nat → Prop} {rn : Nat → Nat} {wr : Nat → Prop} {nx fo : Nat → Int32} {lW : Int32} (F : ps_Feed c L rn wr nx fo lW) (al : ∀ x, x < c → wr x) (hR : ps_Rn c R rn) :
    (∀ r, 1 ≤ r → r ≤ R → ps_mi L (fun x => x < c ∧ rn x = r) (fo (r - 1))) ∧ (∀ x, x < c → ps_mi L (fun y => y < c ∧ rn y = rn x ∧ L x y) (nx x)) := by
  obtain ⟨wc, h⟩ := F
  rcases h with ⟨_, n, _⟩ | ⟨l, _, hl, hle, _, hfo, hnx⟩
  · have c0 : c = 0 := by
      by_cases e : c = 0
      · exact e
      · exact absurd (al 0 (by omega)) (n 0)
    have R0 := hR.2.1 c0
    exact ⟨fun r a b => by omega, fun x hx => by omega⟩
  · have lc := wc l hl
    have eR : rn l = R := by
      obtain ⟨x, hx, ex⟩ := hR.2.2.1 (by omega)
      have a := (hR.1 l lc).2
      rcases hle x (al x hx) with q | q
      · rw [← q]; exact ex
      · have := ps_R_le q; omega
    refine ⟨fun r a b => ps_mi_c (fun y => ⟨fun z => ⟨wc y z.1, z.2⟩, fun z => ⟨al y z.1, z.2⟩⟩) (hfo r a (by omega)), fun x hx => ps_mi_c (fun y => ⟨fun z => ⟨wc y z.1, z.2⟩, fun z => ⟨al y z.1, z.2⟩⟩) (hnx x (al x hx))⟩
/-- one live slot alone: the whole is sorted -/
theorem ps_toS {c s0 : Nat} {L : Nat → Nat → Prop} {own : Nat → Nat} {live : Nat → Prop} {nx rs : Nat → Int32} (O : ps_Own c L own live nx rs) (h0 : live s0) (h1 : ∀ s, live s → s = s0) :
    ps_mi L (fun x => x < c) (rs s0) ∧ (∀ x, x < c → ps_mi L (fun y => y < c ∧ L x y) (nx x)) := by
  obtain ⟨a, m, n⟩ := O
  have eo : ∀ x, x < c → own x = s0 := fun x hx => h1 _ (a x hx)
  refine ⟨ps_mi_c (fun y => ⟨fun z => z.1, fun z => ⟨z, eo y z⟩⟩) (m s0 h0), fun x hx => ps_mi_c (fun y => ⟨fun z => ⟨z.1, z.2.2⟩, fun z => ⟨z.1, (eo y z.1).trans (eo x hx).symm, z.2⟩⟩) (n x hx)⟩
theorem px_fro {tT wS rL sg rC gR hd lW lv oN ur cR : Int32} {K V N nx ws fo pr rs fs rc mh : Nat → Int32} {post : Int32 → Prop} {f p : Nat} (hf : f < 4) (hfs : fs f = nI p) (hp32 : p < 32) (hp : post (rs (f * 32 + p))) : wpX_firstRunOn post (tT, wS, rL, sg, rC, gR, hd, lW, lv, oN, ur, cR, K, V, N, nx, ws, fo, pr, rs, fs, rc, mh) (nI f) := by
  have ef : (nI f).toNatClampNeg = f := nI_clamp (by omega)
  have ex : nI f * 32 + fs (nI f).toNatClampNeg = nI (f * 32 + p) := by
    have h1 : nI f * 32 = nI (f * 32) := pk_mul f 32
    rw [ef, hfs, h1, nI_add]
  refine And.intro (vp_in_nI hf (by decide)) (And.intro (by rw [ex]; exact vp_in_nI (by omega) (by decide)) ?_)
  rw [ex, nI_clamp (by omega)]
  exact hp
theorem px_es {tT wS rL sg rC gR hd lW lv ur cR : Int32} {K V N nx ws fo pr rs fs rc mh : Nat → Int32} {post : SX → Prop} {f p : Nat} (hf : f < 4) (hfs : fs f = nI p) (hp32 : p < 32) (hp : post (tT, wS, rL, 2, rC, gR, hd, lW, lv, nI f, rs (f * 32 + p), -1, K, V, N, nx, ws, fo, pr, rs, fs, rc, mh)) : wpX_enterSorted post (tT, wS, rL, sg, rC, gR, hd, lW, lv, nI f, ur, cR, K, V, N, nx, ws, fo, pr, rs, fs, rc, mh) := by
  unfold wpX_enterSorted wpX_goToStart
  exact px_fro hf hfs hp32 hp
theorem i_vc_finish {k : Nat} {u : SX} {v : SY} (I : i_Rel k u v) (hk : k + 3 ≤ 1539) : wpX_finish (fun r u' => wpY_finish (fun r' v' => r' = r ∧ i_Rel (k + 3) u' v') v) u := by
  have I' := I
  rcases I with I | I | I
  · obtain ⟨T, W, A, c, R, h, rn, w, wr, lW, yl, yo, K, V, N, nx, ws, fo, pr, rs, fs, rc, mh, ins, row, hl, HC, HF, rfl, rfl⟩ := I
    have hh := ps_hN HC
    have HC2 := HC
    obtain ⟨hT, w2, w8, a8, a6, ca, hN, hR⟩ := HC2
    obtain ⟨hW, _, F, Wk, hw, hi, hcn⟩ := HF
    have t4 := ps_T4 hT
    obtain ⟨n, hn, hR1, hR2⟩ := ps_lev hT hh.2.1
    refine br_t rfl ?_
    refine px_ew hh.1 (by omega) hh.2.2.2 F Wk hw (fun lW' nx' ws' fo' wr' al F' => ?_)
    have E := ps_FeedE F' al hR
    refine px_ch hT hh.2.1 hn hR1 hR2 (fun pr' hpr => ?_)
    refine px_di hT hn hh.2.1 hR1 hpr (fun x hx => (hR.1 x hx).1) E.1 (fun sl rcN rs' fs' rc' hfs D hrc hrp => ?_)
    have O := ps_DistE D hR.1 E.2
    have en : (nI n = 0 ↔ n = 0) := nI_eq (b := 0) (by omega) (by omega)
    refine ps_if en (fun n0 => ?_) (fun n0 => ?_)
    · subst n0
      refine px_es (f := 0) (p := 0) (by omega) (hfs 0 (by omega)) (by omega) ?_
      refine py_fin hT hn hh.2.1 hR1 hR2 hh.1 hN hR (fun ins' row' hl' hz hhl _ => ⟨rfl, Or.inr (Or.inr ?_)⟩) (fun ins' row' hl' hz hhl z => absurd rfl z)
      have l0 : ps_live (fun _ => 0) rcN 0 := ⟨by omega, by rw [hrp 0 (by omega)]; exact (by decide : (0 % 32 + 32 - 0) % 32 < 1)⟩
      have l1 : ∀ s, ps_live (fun _ => 0) rcN s → s = 0 := by
        intro s hs
        obtain ⟨s1, s2⟩ := hs
        rw [hrp (s / 32) (by omega)] at s2
        by_cases e : s / 32 = 0
        · rw [e] at s2
          have : ps_pa T 0 0 = 1 := rfl
          rw [this] at s2
          have e3 : (s % 32 + 32 - 0) % 32 < 1 := s2
          omega
        · have : ps_pa T 0 (s / 32) = 0 := if_neg e
          rw [this] at s2
          exact absurd s2 (Nat.not_lt_zero _)
      have S := ps_toS O l0 l1
      refine ⟨-1, T, W, A, c, R, 0, 0, rn, rs' 0, lW', K, V, N, nx', ws', fo', pr', rs', fs', rc', mh, ins', row', hl', HC, ⟨by omega, by omega, hfs 0 (by omega), fun t ht => ?_, S.1, S.2, Or.inl rfl, ?_⟩, hz, rfl, rfl⟩
      · rw [hrc t (by omega), hrp t (by omega), hhl t ht]
      · exact ps_mi_c (fun y => ⟨fun z => ⟨z, Or.inl rfl⟩, fun z => z.1⟩) S.1
    · have e1 : nI T - 1 = nI (T - 1) := ps_p1 (by omega)
      refine nm_r e1 ?_
      refine py_fin hT hn hh.2.1 hR1 hR2 hh.1 hN hR (fun ins' row' hl' hz hhl z => absurd z n0) (fun ins' row' hl' hz hhl _ => ⟨rfl, Or.inr (Or.inl ?_)⟩)
      refine ⟨ps_pa T n (T - 2), T, W, A, c, R, n, T - 1, 0, rn, fun _ => 0, rcN, fun x => sl (rn x), lW', K, V, N, nx', ws', fo', pr', rs', fs', rc', mh, ins', row', hl', HC, ⟨by omega, hn, by omega, ⟨by omega, (ps_tt1 hT (by omega) hn).1⟩, ?_, ?_, ?_, ?_, O⟩, hz, rfl, rfl⟩
      · intro t ht
        rw [hrp t (by omega)]
        by_cases e : t = T - 1
        · rw [if_pos e, e, ps_pa_0 hT (by omega)]
        · rw [if_neg e]
          have : (t + T - (T - 1) - 1) % T = t := by
            have e2 : t + T - (T - 1) - 1 = t := by omega
            rw [e2]; exact Nat.mod_eq_of_lt ht
          rw [this]; omega
      · intro t tT ht4; rw [hrp t ht4, ps_pa_0 hT (by omega)]
      · intro t ht; exact ⟨hfs t ht, by show 0 < 32; omega, hrc t ht⟩
      · intro t ht; rw [hhl t ht, hrp t (by omega)]
  · obtain ⟨e, T, W, A, c, R, n, f, d, rn, fsN, rcN, own, lW, K, V, N, nx, ws, fo, pr, rs, fs, rc, mh, ins, row, hl, HC, HM, hin, rfl, rfl⟩ := I
    exact br_f (by decide) (br_f (by decide) ⟨rfl, I'⟩)
  · obtain ⟨la, T, W, A, c, R, f, p, rn, ur, lW, K, V, N, nx, ws, fo, pr, rs, fs, rc, mh, ins, row, hl, HC, HS, hin, rfl, rfl⟩ := I
    exact br_f (by decide) (br_f (by decide) ⟨rfl, I'⟩)
