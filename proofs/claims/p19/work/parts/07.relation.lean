/-! the relation. -/
def ps_Com (T W A c R : Nat) (rn : Nat → Nat) (N : Nat → Int32) : Prop :=
  ps_T34 T ∧ 2 ≤ W ∧ W ≤ 8 ∧ 8 ≤ A ∧ A ≤ 64 ∧ c ≤ A ∧ (∀ x, x < c → N x = nI (rn x)) ∧ ps_Rn c R rn
def ps_Fd (W c h : Nat) (rn w : Nat → Nat) (wr : Nat → Prop) (K nx ws fo ins : Nat → Int32) (lW : Int32) : Prop :=
  h ≤ W ∧ (h < W → h = c ∧ lW = -1) ∧ ps_Feed c (ps_L K) rn wr nx fo lW ∧ ps_Ws c h w wr ∧ (∀ j, j < h → ws j = nI (w j)) ∧ (∀ x, x < c → (ins x = 0 ↔ wr x)) ∧ ps_cn ins c = h
def ps_Mg (T c n f d e : Nat) (fsN rcN own : Nat → Nat) (K nx rs fs rc hl : Nat → Int32) : Prop :=
  1 ≤ n ∧ n + T ≤ 10 ∧ f < T ∧ (ps_pa T n (T - 2) = d + e ∧ 1 ≤ e) ∧ ps_Rc T n f d rcN ∧ (∀ t, T ≤ t → t < 4 → rcN t = 0) ∧ (∀ t, t < 4 → fs t = nI (fsN t) ∧ fsN t < 32 ∧ rc t = nI (rcN t)) ∧ (∀ t, t < T → hl t = nI (rcN t)) ∧ ps_Own c (ps_L K) own (ps_live fsN rcN) nx rs
def ps_aft (K : Nat → Int32) (c : Nat) (la : Int32) (y : Nat) : Prop := y < c ∧ (la = -1 ∨ ∃ l, l < c ∧ la = nI l ∧ ps_L K l y)
def ps_So (T c f p : Nat) (la ur : Int32) (K nx rs fs rc hl : Nat → Int32) : Prop :=
  f < T ∧ p < 32 ∧ fs f = nI p ∧ (∀ t, t < T → rc t = hl t) ∧ ps_mi (ps_L K) (fun x => x < c) (rs (f * 32 + p)) ∧ (∀ x, x < c → ps_mi (ps_L K) (fun y => y < c ∧ ps_L K x y) (nx x)) ∧ (la = -1 ∨ ∃ l, l < c ∧ la = nI l) ∧ ps_mi (ps_L K) (ps_aft K c la) ur
/-- what every stage has: the counts, the fields, what is inside -/
theorem ps_T4 {T : Nat} (h : ps_T34 T) : 3 ≤ T ∧ T ≤ 4 := by
  rcases h with e | e <;> omega
theorem ps_R32 {c R : Nat} {rn : Nat → Nat} (h : ps_Rn c R rn) (hc : c ≤ 64) : R ≤ 32 := by
  have := h.2.2.2.1
  omega
theorem px_clear {tT wS rL sg rC gR hd lW lv oN ur cR : Int32} {K V N nx ws fo pr rs fs rc mh : Nat → Int32} {post : St2 → Prop} (hp : post (tT, wS, rL, 0, 0, 0, 0, -1, -1, -1, -1, -1, K, V, N, nx, ws, fo, pr, rs, fs, rc, mh)) : wpX_clear post (tT, wS, rL, sg, rC, gR, hd, lW, lv, oN, ur, cR, K, V, N, nx, ws, fo, pr, rs, fs, rc, mh) := hp
