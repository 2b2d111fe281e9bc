/-! the relation. -/
def ps_Com (T W A c R : Nat) (rn : Nat → Nat) (N : Nat → Int32) : Prop :=
  ps_T34 T ∧ 2 ≤ W ∧ W ≤ 8 ∧ 8 ≤ A ∧ A ≤ 64 ∧ c ≤ A ∧ (∀ x, x < c → N x = nI (rn x)) ∧ ps_Rn c R rn
def ps_Fd (W c h : Nat) (rn w : Nat → Nat) (wr : Nat → Prop) (K nx ws fo ins : Nat → Int32) (lW : Int32) : Prop :=
  h ≤ W ∧ (h < W → h = c ∧ lW = -1) ∧ ps_Feed c (ps_L K) rn wr nx fo lW ∧ ps_Ws c h w wr ∧ (∀ j, j < h → ws j = nI (w j)) ∧ (∀ x, x < c → (ins x = 0 ↔ wr x)) ∧ ps_cn ins c = h
def ps_Mg (T c n f d e : Nat) (fsN rcN own : Nat → Nat) (K nx rs fs rc hl : Nat → Int32) : Prop :=
  1 ≤ n ∧ n + T ≤ 10 ∧ f < T ∧ (ps_pa T n (T - 2) = d + e ∧ 1 ≤ e) ∧ ps_Rc T n f d rcN ∧ (∀ t, T ≤ t → t < 4 → rcN t = 0) ∧ (∀ t, t < 4 → fs t = nI (fsN t) ∧ fsN t < 32 ∧ rc t = nI (rcN t)) ∧ (∀ t, t < T → hl t = nI (rcN t)) ∧ ps_Own c (ps_L K) own (ps_live fsN rcN) nx rs
def ps_aft (K : Nat → Int32) (c : Nat) (la : Int32) (y : Nat) : Prop := y < c ∧ (la = -1 ∨ ∃ l, l < c ∧ la = nI l ∧ ps_L K l y)
def ps_So (T c f p : Nat) (la ur : Int32) (K nx rs fs rc hl : Nat → Int32) : Prop :=
  f < T ∧ p < 32 ∧ fs f = nI p ∧ (∀ t, t < T → rc t = hl t) ∧ ps_mi (ps_L K) (fun x => x < c) (rs (f * 32 + p)) ∧ (∀ x, x < c → ps_mi (ps_L K) (fun y => y < c ∧ ps_L K x y) (nx x)) ∧ (la = -1 ∨ ∃ l, l < c ∧ la = nI l) ∧ ps_mi (ps_L K) (ps_aft K c la) ur
def ps_RF (u : SX) (v : SY) : Prop := ∃ (T W A c R h : Nat) (rn w : Nat → Nat) (wr : Nat → Prop) (lW yl yo : Int32) (K V N nx ws fo pr rs fs rc mh ins row hl : Nat → Int32),
  ps_Com T W A c R rn N ∧ ps_Fd W c h rn w wr K nx ws fo ins lW ∧ u = (nI T, nI W, nI A, 0, nI c, nI R, nI h, lW, -1, -1, -1, -1, K, V, N, nx, ws, fo, pr, rs, fs, rc, mh) ∧ v = (nI T, nI W, nI A, 0, nI c, yl, yo, -1, K, V, N, ins, row, hl)
def ps_RMe (e : Nat) (u : SX) (v : SY) : Prop := ∃ (T W A c R n f d : Nat) (rn fsN rcN own : Nat → Nat) (lW : Int32) (K V N nx ws fo pr rs fs rc mh ins row hl : Nat → Int32),
  ps_Com T W A c R rn N ∧ ps_Mg T c n f d e fsN rcN own K nx rs fs rc hl ∧ (∀ x, x < 64 → ins x = 0) ∧ u = (nI T, nI W, nI A, 1, nI c, nI R, nI 0, lW, nI n, nI f, -1, -1, K, V, N, nx, ws, fo, pr, rs, fs, rc, mh) ∧ v = (nI T, nI W, nI A, 1, nI c, nI n, nI f, -1, K, V, N, ins, row, hl)
def ps_RM (u : SX) (v : SY) : Prop := ∃ e, ps_RMe e u v
def ps_RSl (la : Int32) (u : SX) (v : SY) : Prop := ∃ (T W A c R f p : Nat) (rn : Nat → Nat) (ur lW : Int32) (K V N nx ws fo pr rs fs rc mh ins row hl : Nat → Int32),
  ps_Com T W A c R rn N ∧ ps_So T c f p la ur K nx rs fs rc hl ∧ (∀ x, x < 64 → ins x = 0) ∧ u = (nI T, nI W, nI A, 2, nI c, nI R, nI 0, lW, 0, nI f, ur, la, K, V, N, nx, ws, fo, pr, rs, fs, rc, mh) ∧ v = (nI T, nI W, nI A, 2, nI c, 0, nI f, la, K, V, N, ins, row, hl)
def ps_RS (u : SX) (v : SY) : Prop := ∃ la, ps_RSl la u v
def i_Rel (k : Nat) (u : SX) (v : SY) : Prop := ps_RF u v ∨ ps_RM u v ∨ ps_RS u v
theorem i_up {k : Nat} {u : SX} {v : SY} (h : i_Rel k u v) : i_Rel (k + 3) u v := h
/-- what every stage has: the counts, the fields, what is inside -/
theorem ps_T4 {T : Nat} (h : ps_T34 T) : 3 ≤ T ∧ T ≤ 4 := by
  rcases h with e | e <;> omega
theorem ps_R32 {c R : Nat} {rn : Nat → Nat} (h : ps_Rn c R rn) (hc : c ≤ 64) : R ≤ 32 := by
  have := h.2.2.2.1
  omega
/-! clear and the constructors -/
theorem py_cll {yT yW yA yg yc yl yo yL : Int32} {K V N row hl : Nat → Int32} {post : SY → Prop} (hp : ∀ ins : Nat → Int32, (∀ x, x < 64 → ins x = 0) → post (yT, yW, yA, yg, yc, yl, yo, yL, K, V, N, ins, row, hl)) :
    ∀ n i (ins : Nat → Int32), i ≤ 64 → 64 - i < n → (∀ x, x < i → ins x = 0) → wY_clear_27 post yT yW yA yg yc yl yo yL n (nI i) K V N ins row hl := by
  intro n
  induction n with
  | zero => intro i ins _ h; omega
  | succ n ih =>
    intro i ins hi hn hz
    refine ps_if (d := 64 ≤ i) (nI_leI (a := 64) (by omega) (by omega)) (fun q => hp ins (fun x hx => hz x (by omega))) (fun q => ?_)
    refine And.intro (vp_in_nI (by omega) (by decide)) (nm_r (e' := upd ins i 0) (by rw [nI_clamp (by omega), ps_vb0]) (nm_r (nI_1 i) (ih (i + 1) (upd ins i 0) (by omega) (by omega) (fun x hx => ?_))))
    by_cases e : x = i
    · rw [e]; exact pk_us
    · rw [pk_un e]; exact hz x (by omega)
theorem py_clear {yT yW yA yg yc yl yo yL : Int32} {K V N ins row hl : Nat → Int32} {post : SY → Prop} (hp : ∀ ins : Nat → Int32, (∀ x, x < 64 → ins x = 0) → post (yT, yW, yA, 0, 0, 0, 0, -1, K, V, N, ins, row, hl)) : wpY_clear post (yT, yW, yA, yg, yc, yl, yo, yL, K, V, N, ins, row, hl) :=
  Exists.intro 65 (py_cll hp 65 0 ins (by omega) (by omega) (fun x h => absurd h (Nat.not_lt_zero x)))
theorem ps_fresh {T W A : Nat} (hT : ps_T34 T) (hW : 2 ≤ W) (hW8 : W ≤ 8) (hA : 8 ≤ A) (hA6 : A ≤ 64) {K V N nx ws fo pr rs fs rc mh ins row hl : Nat → Int32} :
    ps_RF (nI T, nI W, nI A, 0, 0, 0, 0, -1, -1, -1, -1, -1, K, V, N, nx, ws, fo, pr, rs, fs, rc, mh) (nI T, nI W, nI A, 0, 0, 0, 0, -1, K, V, N, ins, row, hl) :=
  ⟨T, W, A, 0, 0, 0, fun _ => 0, fun _ => 0, fun _ => False, -1, 0, 0, K, V, N, nx, ws, fo, pr, rs, fs, rc, mh, ins, row, hl,
    ⟨hT, hW, hW8, hA, hA6, by omega, fun x h => absurd h (Nat.not_lt_zero x), ps_Rn0 _⟩,
    ⟨by omega, fun _ => ⟨rfl, rfl⟩, ps_Feed0 _ _ _ _, ps_Ws0 _ _, fun j h => absurd h (Nat.not_lt_zero j), fun x h => absurd h (Nat.not_lt_zero x), rfl⟩, rfl, rfl⟩
theorem px_clear {tT wS rL sg rC gR hd lW lv oN ur cR : Int32} {K V N nx ws fo pr rs fs rc mh : Nat → Int32} {post : SX → Prop} (hp : post (tT, wS, rL, 0, 0, 0, 0, -1, -1, -1, -1, -1, K, V, N, nx, ws, fo, pr, rs, fs, rc, mh)) : wpX_clear post (tT, wS, rL, sg, rC, gR, hd, lW, lv, oN, ur, cR, K, V, N, nx, ws, fo, pr, rs, fs, rc, mh) := hp
theorem i_vc_clear {k : Nat} {u : SX} {v : SY} (I : i_Rel k u v) (hk : k + 3 ≤ 1539) : wpX_clear (fun u' => wpY_clear (fun v' => i_Rel (k + 3) u' v') v) u := by
  rcases I with I | I | I
  · obtain ⟨T, W, A, c, R, h, rn, w, wr, lW, yl, yo, K, V, N, nx, ws, fo, pr, rs, fs, rc, mh, ins, row, hl, HC, HF, rfl, rfl⟩ := I
    exact px_clear (py_clear (fun ins' _ => Or.inl (ps_fresh HC.1 HC.2.1 HC.2.2.1 HC.2.2.2.1 HC.2.2.2.2.1)))
  · obtain ⟨e, T, W, A, c, R, n, f, d, rn, fsN, rcN, own, lW, K, V, N, nx, ws, fo, pr, rs, fs, rc, mh, ins, row, hl, HC, HM, hin, rfl, rfl⟩ := I
    exact px_clear (py_clear (fun ins' _ => Or.inl (ps_fresh HC.1 HC.2.1 HC.2.2.1 HC.2.2.2.1 HC.2.2.2.2.1)))
  · obtain ⟨la, T, W, A, c, R, f, p, rn, ur, lW, K, V, N, nx, ws, fo, pr, rs, fs, rc, mh, ins, row, hl, HC, HS, hin, rfl, rfl⟩ := I
    exact px_clear (py_clear (fun ins' _ => Or.inl (ps_fresh HC.1 HC.2.1 HC.2.2.1 HC.2.2.2.1 HC.2.2.2.2.1)))
/-- a number put between two others -/
theorem ps_clm (x : Int32) (a b : Nat) (hab : a ≤ b) (hb : b < 1000) : ∃ j, a ≤ j ∧ j ≤ b ∧ ∀ P : Int32 → Prop, P (nI j) → wpX_clamp P x (nI a) (nI b) := by
  by_cases h : nI a ≤ x
  · by_cases g : x ≤ nI b
    · have p : ¬ x < 0 := Int32.not_lt.mpr (Int32.le_trans (nI_pos' (by omega)) h)
      obtain ⟨j, hj, ej⟩ := nI_of p
      subst ej
      exact ⟨j, (nI_leI (by omega) hj).1 h, (nI_leI hj (by omega)).1 g, fun P hP => br_t h (br_t g hP)⟩
    · exact ⟨b, hab, Nat.le_refl b, fun P hP => br_t h (br_f g hP)⟩
  · exact ⟨a, Nat.le_refl a, hab, fun P hP => br_f h hP⟩
theorem i_vc0 (k0 : Int32) (k1 : Int32) (k2 : Int32) : wpX_init (fun u => wpY_init (fun v => i_Rel 3 u v) k0 k1 k2) k0 k1 k2 := by
  obtain ⟨T, t3, t4, cT⟩ := ps_clm k0 3 4 (by omega) (by omega)
  obtain ⟨W, w2, w8, cW⟩ := ps_clm k1 2 8 (by omega) (by omega)
  obtain ⟨A, a8, a64, cA⟩ := ps_clm k2 8 64 (by omega) (by omega)
  have hT : ps_T34 T := by unfold ps_T34; omega
  unfold wpX_init
  refine cT _ (cW _ (cA _ ?_))
  show wpY_init _ k0 k1 k2
  refine cT (fun z => wY_init_70 _ k1 k2 z 0 0 0 0 0 0 0 0 (fun _ => 0) (fun _ => 0) (fun _ => 0) (fun _ => 0) (fun _ => 0) (fun _ => 0)) ?_
  refine cW (fun z => wY_init_95 _ k2 z (nI T) 0 0 0 0 0 0 0 (fun _ => 0) (fun _ => 0) (fun _ => 0) (fun _ => 0) (fun _ => 0) (fun _ => 0)) ?_
  refine cA (fun z => wY_init_122 _ z (nI T) (nI W) 0 0 0 0 0 0 (fun _ => 0) (fun _ => 0) (fun _ => 0) (fun _ => 0) (fun _ => 0) (fun _ => 0)) ?_
  exact py_clear (fun ins' _ => Or.inl (ps_fresh hT w2 w8 a8 a64))
