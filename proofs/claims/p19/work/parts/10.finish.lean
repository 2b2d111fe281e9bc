/-! finish, the component's side. -/
theorem px_ewl {tT wS rL sg rC gR lv oN ur cR : Int32} {K V N pr rs fs rc mh : Nat → Int32} {post : St2 → Prop} {c : Nat} {rn : Nat → Nat} (hc : c ≤ 64) (hN : ∀ x, x < c → N x = nI (rn x) ∧ 1 ≤ rn x ∧ rn x ≤ 64)
    (hp : ∀ (lW : Int32) (nx ws fo : Nat → Int32) (wr : Nat → Prop), (∀ x, x < c → wr x) → ps_Feed c (ps_L K) rn wr nx fo lW → post (tT, wS, rL, sg, rC, gR, nI 0, lW, lv, oN, ur, cR, K, V, N, nx, ws, fo, pr, rs, fs, rc, mh)) :
    ∀ (h n i : Nat) (lW : Int32) (nx ws fo : Nat → Int32) (w : Nat → Nat) (wr : Nat → Prop), h + i ≤ 8 → h < n → ps_Feed c (ps_L K) rn wr nx fo lW → ps_Ws c h w wr → (∀ j, j < h → ws j = nI (w j)) → wX_emptyWorkspace_2 post n (nI i) tT wS rL sg rC gR (nI h) lW lv oN ur cR K V N nx ws fo pr rs fs rc mh := by
  intro h
  induction h with
  | zero =>
    intro n i lW nx ws fo w wr hi hn F Wk hw
    obtain ⟨n, rfl⟩ : ∃ m, n = m + 1 := ⟨n - 1, by omega⟩
    have al : ∀ x, x < c → wr x := by
      intro x hx
      by_cases q : wr x
      · exact q
      · obtain ⟨j, hj, _⟩ := Wk.2.2 x hx q
        omega
    have g := hp lW nx ws fo wr al F
    exact br_c (fun _ => g) (fun _ => br_c (fun _ => g) (fun z => absurd (nI_le (a := 0) (b := 0) (by omega) (by omega)) z))
  | succ h ih =>
    intro n i lW nx ws fo w wr hi hn F Wk hw
    obtain ⟨n, rfl⟩ : ∃ m, n = m + 1 := ⟨n - 1, by omega⟩
    have C : px_Cl (h + 1) w rn N ws := by
      refine ⟨by omega, fun j hj => ?_, Wk.2.1⟩
      have a := Wk.1 j hj
      have n := hN _ a.1
      exact ⟨hw j hj, by omega, n.1, by omega⟩
    refine br_f (nI_ge (b := 8) (by omega) (by decide)) (br_f (nI_nle (by omega) (by omega)) ?_)
    refine px_fc C (by omega) (fun b hb hmin => ?_)
    have wb := Wk.1 b hb
    have hm : ∀ y, y < c → ¬ wr y → y = w b ∨ ps_R rn (ps_L K) (w b) y := by
      intro y hy hwy
      obtain ⟨j, hj, ej⟩ := Wk.2.2 y hy hwy
      rcases hmin j hj with q | q
      · left; rw [← ej, q]
      · right; rw [← ej]; exact q
    have ib : vp_in (nI b) 8 := vp_in_nI (by omega) (by decide)
    refine And.intro ib ?_
    have eb : ws (nI b).toNatClampNeg = nI (w b) := by rw [nI_clamp (by omega)]; exact hw b hb
    rw [eb]
    refine px_wo hc F hN wb.1 wb.2 hm (fun nx' fo' F' => ?_)
    have eh : ws (nI h).toNatClampNeg = nI (w h) := by rw [nI_clamp (by omega)]; exact hw h (by omega)
    refine nm_r (nI_pred h) (And.intro (vp_in_nI (by omega) (by decide)) (And.intro ib (nm_r (e' := upd ws b (nI (w h))) (by rw [eh, nI_clamp (by omega)]) (nm_r (nI_1 i) ?_))))
    refine ih n (i + 1) (nI (w b)) nx' (upd ws b (nI (w h))) fo' (ps_un w b (w h)) (fun x => wr x ∨ x = w b) (by omega) (by omega) F' (ps_WsC Wk hb) (fun j hj => ?_)
    by_cases e : j = b
    · rw [e, pk_us, ps_us]
    · rw [pk_un e, ps_uo e]; exact hw j (by omega)
theorem px_ew {tT wS rL sg rC gR lW lv oN ur cR : Int32} {K V N nx ws fo pr rs fs rc mh : Nat → Int32} {post : St2 → Prop} {c h : Nat} {rn w : Nat → Nat} {wr : Nat → Prop} (hc : c ≤ 64) (h8 : h ≤ 8) (hN : ∀ x, x < c → N x = nI (rn x) ∧ 1 ≤ rn x ∧ rn x ≤ 64)
    (F : ps_Feed c (ps_L K) rn wr nx fo lW) (Wk : ps_Ws c h w wr) (hw : ∀ j, j < h → ws j = nI (w j))
    (hp : ∀ (lW : Int32) (nx ws fo : Nat → Int32) (wr : Nat → Prop), (∀ x, x < c → wr x) → ps_Feed c (ps_L K) rn wr nx fo lW → post (tT, wS, rL, sg, rC, gR, nI 0, lW, lv, oN, ur, cR, K, V, N, nx, ws, fo, pr, rs, fs, rc, mh)) : wpX_emptyWorkspace post (tT, wS, rL, sg, rC, gR, nI h, lW, lv, oN, ur, cR, K, V, N, nx, ws, fo, pr, rs, fs, rc, mh) :=
  Exists.intro (h + 1) (px_ewl hc hN hp h (h + 1) 0 lW nx ws fo w wr (by omega) (by omega) F Wk hw)
/-! the level -/
def ps_sm (T n : Nat) : Nat → Nat
  | 0 => 0
  | j + 1 => ps_sm T n j + ps_pa T n j
theorem ps_sm_tt {T n : Nat} (hT : ps_T34 T) : ps_sm T n (T - 1) = ps_tt T n := by
  rcases hT with e | e
  · subst e
    have z : ps_pa 3 n 2 = 0 := ps_pa_0 (Or.inl rfl) (by omega)
    show 0 + ps_pa 3 n 0 + ps_pa 3 n 1 = ps_pa 3 n 0 + ps_pa 3 n 1 + ps_pa 3 n 2
    omega
  · subst e
    show 0 + ps_pa 4 n 0 + ps_pa 4 n 1 + ps_pa 4 n 2 = ps_pa 4 n 0 + ps_pa 4 n 1 + ps_pa 4 n 2
    omega
theorem ps_pab {T n : Nat} (hT : ps_T34 T) (hn : n + T ≤ 10) (j : Nat) : ps_pa T n j ≤ 24 := by
  rcases hT with e | e
  · subst e
    have t := ps_tab3 n (by omega)
    by_cases a : j = 0
    · subst a; omega
    · by_cases b : j = 1
      · subst b; omega
      · rw [ps_pa_0 (Or.inl rfl) (by omega)]; omega
  · subst e
    have t := ps_tab4 n (by omega)
    by_cases a : j = 0
    · subst a; omega
    · by_cases b : j = 1
      · subst b; omega
      · by_cases d : j = 2
        · subst d; omega
        · rw [ps_pa_0 (Or.inr rfl) (by omega)]; omega
theorem ps_ttb {T n : Nat} (hT : ps_T34 T) (hn : n + T ≤ 10) : ps_tt T n ≤ 72 := by
  have a := ps_pab hT hn 0
  have b := ps_pab hT hn 1
  have c := ps_pab hT hn 2
  unfold ps_tt
  omega
theorem px_rpl {wS rL sg rC gR hd lW lv oN ur cR : Int32} {K V N nx ws fo rs fs rc mh : Nat → Int32} {post : St2 → Prop} {T n : Nat} (hT : ps_T34 T) (hp : ∀ pr : Nat → Int32, (∀ j, j < 4 → pr j = nI (ps_pa T (n + 1) j)) → post (nI T, wS, rL, sg, rC, gR, hd, lW, lv, oN, ur, cR, K, V, N, nx, ws, fo, pr, rs, fs, rc, mh)) :
    ∀ m i (pr : Nat → Int32), i + 1 ≤ T → T - 1 - i < m → (∀ j, j < i → pr j = nI (ps_pa T (n + 1) j)) → (∀ j, i ≤ j → j < 4 → pr j = nI (ps_pa T n j)) → wX_raisePerfectRow_9 post (nI (ps_pa T n 0)) (nI T) wS rL sg rC gR hd lW lv oN ur cR m (nI i) K V N nx ws fo pr rs fs rc mh := by
  have t4 := ps_T4 hT
  have e1 : nI T - 1 = nI (T - 1) := ps_p1 (by omega)
  intro m
  induction m with
  | zero => intro i pr _ h; omega
  | succ m ih =>
    intro i pr hi hm h0 h1
    refine ps_if (d := T - 1 ≤ i) (by rw [e1]; exact nI_leI (by omega) (by omega)) (fun q => hp pr (fun j hj => ?_)) (fun q => ?_)
    · by_cases ji : j < i
      · exact h0 j ji
      · rw [h1 j (by omega) hj, ps_pa_0 hT (by omega), ps_pa_0 hT (by omega)]
    · have ei : (nI i).toNatClampNeg = i := nI_clamp (by omega)
      have en : (nI i + 1).toNatClampNeg = i + 1 := by rw [nI_1]; exact nI_clamp (by omega)
      have v : nI (ps_pa T n 0) + pr (i + 1) = nI (ps_pa T (n + 1) i) := by
        rw [h1 (i + 1) (by omega) (by omega), nI_add, ps_pa_s, if_pos (by omega)]
      refine And.intro (by rw [nI_1]; exact vp_in_nI (by omega) (by decide)) (And.intro (vp_in_nI (by omega) (by decide)) (nm_r (e' := upd pr i (nI (ps_pa T (n + 1) i))) (by rw [en, ei, v]) (nm_r (nI_1 i) (ih (i + 1) _ (by omega) (by omega) (fun j hj => ?_) (fun j hj hj4 => ?_)))))
      · by_cases e : j = i
        · rw [e, pk_us]
        · rw [pk_un e]; exact h0 j (by omega)
      · rw [pk_un (by omega)]; exact h1 j (by omega) hj4
theorem px_rp {wS rL sg rC gR hd lW lv oN ur cR : Int32} {K V N nx ws fo pr rs fs rc mh : Nat → Int32} {post : St2 → Prop} {T n : Nat} (hT : ps_T34 T) (h : ∀ j, j < 4 → pr j = nI (ps_pa T n j)) (hp : ∀ pr : Nat → Int32, (∀ j, j < 4 → pr j = nI (ps_pa T (n + 1) j)) → post (nI T, wS, rL, sg, rC, gR, hd, lW, lv, oN, ur, cR, K, V, N, nx, ws, fo, pr, rs, fs, rc, mh)) : wpX_raisePerfectRow post (nI T, wS, rL, sg, rC, gR, hd, lW, lv, oN, ur, cR, K, V, N, nx, ws, fo, pr, rs, fs, rc, mh) := by
  have t4 := ps_T4 hT
  exact nm_r (h 0 (by omega)) (Exists.intro T (px_rpl hT hp T 0 pr (by omega) (by omega) (fun j hj => absurd hj (Nat.not_lt_zero j)) (fun j _ hj => h j hj)))
theorem px_ptl {wS rL sg rC gR hd lW lv oN ur cR : Int32} {K V N nx ws fo pr rs fs rc mh : Nat → Int32} {post : Int32 → Prop} {T n : Nat} (hT : ps_T34 T) (h : ∀ j, j < 4 → pr j = nI (ps_pa T n j)) (hp : post (nI (ps_tt T n))) :
    ∀ m i, i + 1 ≤ T → T - 1 - i < m → wX_perfectTotal_4 post (nI T) wS rL sg rC gR hd lW lv oN ur cR K V N nx ws fo pr rs fs rc mh m (nI (ps_sm T n i)) (nI i) := by
  have t4 := ps_T4 hT
  have e1 : nI T - 1 = nI (T - 1) := ps_p1 (by omega)
  intro m
  induction m with
  | zero => intro i _ h; omega
  | succ m ih =>
    intro i hi hm
    refine ps_if (d := T - 1 ≤ i) (by rw [e1]; exact nI_leI (by omega) (by omega)) (fun q => ?_) (fun q => ?_)
    · have e : i = T - 1 := by omega
      rw [e, ps_sm_tt hT]; exact hp
    · have ei : (nI i).toNatClampNeg = i := nI_clamp (by omega)
      refine And.intro (vp_in_nI (by omega) (by decide)) (nm_r (e' := nI (ps_sm T n (i + 1))) (by rw [ei, h i (by omega), nI_add]; rfl) (nm_r (nI_1 i) (ih (i + 1) (by omega) (by omega))))
theorem px_pt {wS rL sg rC gR hd lW lv oN ur cR : Int32} {K V N nx ws fo pr rs fs rc mh : Nat → Int32} {post : Int32 → Prop} {T n : Nat} (hT : ps_T34 T) (h : ∀ j, j < 4 → pr j = nI (ps_pa T n j)) (hp : post (nI (ps_tt T n))) : wpX_perfectTotal post (nI T, wS, rL, sg, rC, gR, hd, lW, lv, oN, ur, cR, K, V, N, nx, ws, fo, pr, rs, fs, rc, mh) := by
  have t4 := ps_T4 hT
  exact Exists.intro T (px_ptl hT h hp T 0 (by omega) (by omega))
theorem px_c36 {wS rL sg rC hd lW oN ur cR : Int32} {K V N nx ws fo rs fs rc mh : Nat → Int32} {post : St2 → Prop} {T R n : Nat} (hT : ps_T34 T) (hR : R ≤ 32) (hn : n + T ≤ 10) (h1 : R ≤ ps_tt T n) (h2 : ∀ m, m < n → ps_tt T m < R)
    (hp : ∀ pr : Nat → Int32, (∀ j, j < 4 → pr j = nI (ps_pa T n j)) → post (nI T, wS, rL, sg, rC, nI R, hd, lW, nI n, oN, ur, cR, K, V, N, nx, ws, fo, pr, rs, fs, rc, mh)) :
    ∀ m i (pr : Nat → Int32), i ≤ n → n - i < m → (∀ j, j < 4 → pr j = nI (ps_pa T i j)) → wX_chooseLevel_36 post m (nI (ps_tt T i)) (nI i) (nI T) wS rL sg rC (nI R) hd lW (nI i) oN ur cR K V N nx ws fo pr rs fs rc mh := by
  have t4 := ps_T4 hT
  intro m
  induction m with
  | zero => intro i pr _ h; omega
  | succ m ih =>
    intro i pr hi hm h
    have tb := ps_ttb hT (n := i) (by omega)
    have fin : i = n → post (nI T, wS, rL, sg, rC, nI R, hd, lW, nI i, oN, ur, cR, K, V, N, nx, ws, fo, pr, rs, fs, rc, mh) := by
      intro e
      subst e
      exact hp pr h
    refine ps_if (d := 7 ≤ i) (nI_leI (a := 7) (by omega) (by omega)) (fun q => fin (by omega)) (fun q => ps_if (d := R ≤ ps_tt T i) (nI_leI (by omega) (by omega)) (fun z => fin ?_) (fun z => ?_))
    · by_cases e : i = n
      · exact e
      · have := h2 i (by omega); omega
    · have il : i < n := by
        by_cases e : i = n
        · rw [e] at z; exact absurd h1 z
        · omega
      refine px_rp hT h (fun pr' h' => nm_r (nI_1 i) ?_)
      exact px_pt hT h' (nm_r (nI_1 i) (ih (i + 1) pr' (by omega) (by omega) h'))
theorem px_c9 {tT wS rL sg rC gR hd lW lv oN ur cR : Int32} {K V N nx ws fo rs fs rc mh : Nat → Int32} {post : St2 → Prop} {T : Nat} (hT : ps_T34 T) (hp : ∀ pr : Nat → Int32, (∀ j, j < 4 → pr j = nI (ps_pa T 0 j)) → ∃ n36 : Nat, wX_chooseLevel_36 post n36 1 0 tT wS rL sg rC gR hd lW 0 oN ur cR K V N nx ws fo pr rs fs rc mh) :
    ∀ m i (pr : Nat → Int32), 1 ≤ i → i ≤ 4 → 4 - i < m → pr 0 = 1 → (∀ j, 1 ≤ j → j < i → pr j = 0) → wX_chooseLevel_9 post tT wS rL sg rC gR hd lW lv oN ur cR m (nI i) K V N nx ws fo pr rs fs rc mh := by
  intro m
  induction m with
  | zero => intro i pr _ _ h; omega
  | succ m ih =>
    intro i pr i1 i4 hm p0 pz
    refine ps_if (d := 4 ≤ i) (nI_leI (a := 4) (by omega) (by omega)) (fun q => hp pr (fun j hj => ?_)) (fun q => ?_)
    · by_cases e : j = 0
      · rw [e]; exact p0
      · rw [pz j (by omega) (by omega)]
        have : ps_pa T 0 j = 0 := if_neg e
        rw [this]; rfl
    · refine And.intro (vp_in_nI (by omega) (by decide)) (nm_r (e' := upd pr i 0) (by rw [nI_clamp (by omega)]) (nm_r (nI_1 i) (ih (i + 1) _ (by omega) (by omega) (by omega) ?_ (fun j j1 ji => ?_))))
      · rw [pk_un (by omega)]; exact p0
      · by_cases e : j = i
        · rw [e, pk_us]
        · rw [pk_un e]; exact pz j j1 (by omega)
theorem px_ch {wS rL sg rC hd lW lv oN ur cR : Int32} {K V N nx ws fo pr rs fs rc mh : Nat → Int32} {post : St2 → Prop} {T R n : Nat} (hT : ps_T34 T) (hR : R ≤ 32) (hn : n + T ≤ 10) (h1 : R ≤ ps_tt T n) (h2 : ∀ m, m < n → ps_tt T m < R)
    (hp : ∀ pr : Nat → Int32, (∀ j, j < 4 → pr j = nI (ps_pa T n j)) → post (nI T, wS, rL, sg, rC, nI R, hd, lW, nI n, oN, ur, cR, K, V, N, nx, ws, fo, pr, rs, fs, rc, mh)) : wpX_chooseLevel post (nI T, wS, rL, sg, rC, nI R, hd, lW, lv, oN, ur, cR, K, V, N, nx, ws, fo, pr, rs, fs, rc, mh) := by
  refine nm_e (Exists.intro 4 (px_c9 hT (fun pr' h' => ?_) 4 1 (upd pr 0 1) (by omega) (by omega) (by omega) pk_us (fun j a b => by omega)))
  have g := px_c36 hT hR hn h1 h2 hp (n + 1) 0 pr' (by omega) (by omega) h'
  have e0 : ps_tt T 0 = 1 := rfl
  rw [e0] at g
  exact Exists.intro (n + 1) g
