/-! the component's walks while it feeds. Wants pk_us pk_un pk_sub pk_m1 pk_mul pk_div pk_rem ahead of it. -/
theorem ps_if {c d A B : Prop} (e : c ↔ d) (f : d → A) (g : ¬ d → B) : (c → A) ∧ (¬ c → B) :=
  ⟨fun h => f (e.1 h), fun h => g (fun z => h (e.2 z))⟩
theorem ps_p1 {r : Nat} (h : 1 ≤ r) : nI r - 1 = nI (r - 1) := pk_sub (b := 1) h
theorem ps_keq (x y : Int32) : x = y ↔ x.toInt = y.toInt := Int32.toInt_inj.symm
theorem ps_kle (x y : Int32) : x ≤ y ↔ x.toInt ≤ y.toInt := Int32.le_iff_toInt_le
theorem ps_klt (x y : Int32) : x < y ↔ x.toInt < y.toInt := Int32.lt_iff_toInt_lt
theorem px_sb {tT wS rL sg rC gR hd lW lv oN ur cR : Int32} {K V N nx ws fo pr rs fs rc mh : Nat → Int32} {post : Int32 → Prop} {a b : Nat} (ha : a < 64) (hb : b < 64) (h1 : ps_L K a b → post 1) (h0 : ¬ ps_L K a b → post 0) : wpX_sortsBefore post (tT, wS, rL, sg, rC, gR, hd, lW, lv, oN, ur, cR, K, V, N, nx, ws, fo, pr, rs, fs, rc, mh) (nI a) (nI b) := by
  have ea : (nI a).toNatClampNeg = a := nI_clamp (by omega)
  have eb : (nI b).toNatClampNeg = b := nI_clamp (by omega)
  have ia : vp_in (nI a) 64 := vp_in_nI ha (by decide)
  have ib : vp_in (nI b) 64 := vp_in_nI hb (by decide)
  refine And.intro ia (And.intro ib (ps_if (d := (K a).toInt = (K b).toInt) (by rw [ea, eb]; exact ps_keq _ _) (fun e => ?_) (fun e => ?_)))
  · refine ps_if (d := b ≤ a) (nI_leI (by omega) (by omega)) (fun q => h0 ?_) (fun q => h1 ?_)
    · unfold ps_L; omega
    · unfold ps_L; omega
  · refine And.intro ia (And.intro ib (ps_if (d := (K b).toInt ≤ (K a).toInt) (by rw [ea, eb]; exact ps_kle _ _) (fun q => h0 ?_) (fun q => h1 ?_)))
    · unfold ps_L; omega
    · unfold ps_L; omega
theorem px_lb {tT wS rL sg rC gR hd lW lv oN ur cR : Int32} {K V N nx ws fo pr rs fs rc mh : Nat → Int32} {post : Int32 → Prop} {a b : Nat} {rn : Nat → Nat} (ha : a < 64) (hb : b < 64) (na : N a = nI (rn a)) (nb : N b = nI (rn b)) (ra : rn a < 1000) (rb : rn b < 1000)
    (h1 : ps_R rn (ps_L K) a b → post 1) (h0 : ¬ ps_R rn (ps_L K) a b → post 0) : wpX_leavesBefore post (tT, wS, rL, sg, rC, gR, hd, lW, lv, oN, ur, cR, K, V, N, nx, ws, fo, pr, rs, fs, rc, mh) (nI a) (nI b) := by
  have ea : (nI a).toNatClampNeg = a := nI_clamp (by omega)
  have eb : (nI b).toNatClampNeg = b := nI_clamp (by omega)
  have ia : vp_in (nI a) 64 := vp_in_nI ha (by decide)
  have ib : vp_in (nI b) 64 := vp_in_nI hb (by decide)
  refine And.intro ia (And.intro ib (ps_if (d := rn a = rn b) (by rw [ea, eb, na, nb]; exact nI_eq (by omega) (by omega)) (fun e => ?_) (fun e => ?_)))
  · refine px_sb ha hb (fun q => ⟨rfl, h1 (Or.inr ⟨e, q⟩)⟩) (fun q => ⟨rfl, h0 (fun z => ?_)⟩)
    rcases z with z | z
    · omega
    · exact q z.2
  · refine And.intro ia (And.intro ib (ps_if (d := rn b ≤ rn a) (by rw [ea, eb, na, nb]; exact nI_leI (by omega) (by omega)) (fun q => h0 (fun z => ?_)) (fun q => h1 (Or.inl (by omega)))))
    rcases z with z | z
    · omega
    · exact e z.1
/-- what frontCell needs of the cells -/
def px_Cl (h : Nat) (w rn : Nat → Nat) (N ws : Nat → Int32) : Prop :=
  h ≤ 8 ∧ (∀ j, j < h → ws j = nI (w j) ∧ w j < 64 ∧ N (w j) = nI (rn (w j)) ∧ rn (w j) < 1000) ∧ (∀ i j, i < h → j < h → w i = w j → i = j)
theorem px_fcl {tT wS rL sg rC gR lW lv oN ur cR : Int32} {K V N nx ws fo pr rs fs rc mh : Nat → Int32} {post : Int32 → Prop} {h : Nat} {w rn : Nat → Nat} (C : px_Cl h w rn N ws)
    (hp : ∀ b, b < h → (∀ j, j < h → j = b ∨ ps_R rn (ps_L K) (w b) (w j)) → post (nI b)) :
    ∀ n i b, i ≤ h → h - i < n → b < h → (∀ j, j < i → j = b ∨ ps_R rn (ps_L K) (w b) (w j)) → wX_frontCell_4 post tT wS rL sg rC gR (nI h) lW lv oN ur cR K V N nx ws fo pr rs fs rc mh n (nI b) (nI i) := by
  obtain ⟨h8, hw, inj⟩ := C
  have hT := ps_R_T (rn := rn) (ps_L_T K)
  intro n
  induction n with
  | zero => intro i b _ h1; omega
  | succ n ih =>
    intro i b hi hn hb hI
    refine ps_if (d := h ≤ i) (nI_leI (by omega) (by omega)) (fun q => hp b hb (fun j hj => hI j (by omega))) (fun q => ?_)
    have il : i < h := by omega
    have wi := hw i il
    have wb := hw b hb
    refine And.intro (vp_in_nI (by omega) (by decide)) (And.intro (vp_in_nI (by omega) (by decide)) ?_)
    have e1 : ws (nI i).toNatClampNeg = nI (w i) := by rw [nI_clamp (by omega)]; exact wi.1
    have e2 : ws (nI b).toNatClampNeg = nI (w b) := by rw [nI_clamp (by omega)]; exact wb.1
    rw [e1, e2]
    refine px_lb (rn := rn) wi.2.1 wb.2.1 wi.2.2.1 wb.2.2.1 wi.2.2.2 wb.2.2.2 (fun z => ?_) (fun z => ?_)
    · refine br_f (by decide) (nm_r (nI_1 i) (ih (i + 1) i (by omega) (by omega) il (fun j hj => ?_)))
      by_cases ji : j = i
      · exact Or.inl ji
      · rcases hI j (by omega) with s | s
        · rw [s]; exact Or.inr z
        · exact Or.inr (hT.2.1 _ _ _ z s)
    · refine br_t rfl (nm_r (nI_1 i) (ih (i + 1) b (by omega) (by omega) hb (fun j hj => ?_)))
      by_cases ji : j = i
      · by_cases bi : b = i
        · exact Or.inl (by omega)
        · right
          rw [ji]
          rcases hT.2.2 (w i) (w b) (fun s => bi (inj i b il hb s).symm) with s | s
          · exact absurd s z
          · exact s
      · exact hI j (by omega)
theorem px_fc {tT wS rL sg rC gR lW lv oN ur cR : Int32} {K V N nx ws fo pr rs fs rc mh : Nat → Int32} {post : Int32 → Prop} {h : Nat} {w rn : Nat → Nat} (C : px_Cl h w rn N ws) (h1 : 1 ≤ h)
    (hp : ∀ b, b < h → (∀ j, j < h → j = b ∨ ps_R rn (ps_L K) (w b) (w j)) → post (nI b)) : wpX_frontCell post (tT, wS, rL, sg, rC, gR, nI h, lW, lv, oN, ur, cR, K, V, N, nx, ws, fo, pr, rs, fs, rc, mh) :=
  Exists.intro (h + 1) (px_fcl C hp (h + 1) 1 0 h1 (by omega) (by omega) (fun j hj => Or.inl (by omega)))
theorem px_w50 {tT wS rL sg rC gR hd lW lv oN ur cR : Int32} {K V N nx ws fo pr rs fs rc mh : Nat → Int32} {post : St2 → Prop} {f : Nat} (hf : f < 64) (hp : post (tT, wS, rL, sg, rC, gR, hd, nI f, lv, oN, ur, cR, K, V, N, upd nx f (-1), ws, fo, pr, rs, fs, rc, mh)) : wX_writeOut_50 post (nI f) tT wS rL sg rC gR hd lW lv oN ur cR K V N nx ws fo pr rs fs rc mh :=
  And.intro (vp_in_nI hf (by decide)) (nm_r (e' := upd nx f (-1)) (by rw [nI_clamp (by omega)]) hp)
theorem px_w41 {tT wS rL sg rC gR hd lW lv oN ur cR : Int32} {K V N nx ws fo pr rs fs rc mh : Nat → Int32} {post : St2 → Prop} {f r : Nat} (hf : f < 64) (h1 : 1 ≤ r) (hr : r ≤ 64) (hp : post (tT, wS, rL, sg, rC, gR, hd, nI f, lv, oN, ur, cR, K, V, N, upd nx f (-1), ws, upd fo (r - 1) (nI f), pr, rs, fs, rc, mh)) : wX_writeOut_41 post (nI f) (nI r) tT wS rL sg rC gR hd lW lv oN ur cR K V N nx ws fo pr rs fs rc mh := by
  have e1 := ps_p1 h1
  refine And.intro (by rw [e1]; exact vp_in_nI (by omega) (by decide)) (nm_r (e' := upd fo (r - 1) (nI f)) (by rw [e1, nI_clamp (by omega)]) ?_)
  exact px_w50 hf hp
theorem px_wo {tT wS rL sg rC gR hd lW lv oN ur cR : Int32} {K V N nx ws fo pr rs fs rc mh : Nat → Int32} {post : St2 → Prop} {c f : Nat} {rn : Nat → Nat} {wr : Nat → Prop} (hc : c ≤ 64) (F : ps_Feed c (ps_L K) rn wr nx fo lW)
    (hN : ∀ x, x < c → N x = nI (rn x) ∧ 1 ≤ rn x ∧ rn x ≤ 64) (hf : f < c) (hw : ¬ wr f) (hm : ∀ y, y < c → ¬ wr y → y = f ∨ ps_R rn (ps_L K) f y)
    (hp : ∀ nx' fo' : Nat → Int32, ps_Feed c (ps_L K) rn (fun x => wr x ∨ x = f) nx' fo' (nI f) → post (tT, wS, rL, sg, rC, gR, hd, nI f, lv, oN, ur, cR, K, V, N, nx', ws, fo', pr, rs, fs, rc, mh)) : wpX_writeOut post (tT, wS, rL, sg, rC, gR, hd, lW, lv, oN, ur, cR, K, V, N, nx, ws, fo, pr, rs, fs, rc, mh) (nI f) := by
  have cf : (nI f).toNatClampNeg = f := nI_clamp (by omega)
  have nf := hN f hf
  have hT := ps_L_T K
  refine And.intro (vp_in_nI (by omega) (by decide)) (nm_r (e' := nI (rn f)) (by rw [cf]; exact nf.1) ?_)
  by_cases e : lW = -1
  · exact br_t e (px_w41 (by omega) nf.2.1 nf.2.2 (hp _ _ (ps_wo0 hT F e (by omega) hf hm).2))
  · refine br_f e ?_
    have F2 := F.2
    rcases F2 with ⟨e', _⟩ | ⟨l, el, hl, _⟩
    · exact absurd e' e
    · have lc := F.1 l hl
      subst el
      have cl : (nI l).toNatClampNeg = l := nI_clamp (by omega)
      have nl := hN l lc
      have il : vp_in (nI l) 64 := vp_in_nI (by omega) (by decide)
      refine And.intro il (ps_if (d := rn l = rn f) (by rw [cl, nl.1]; exact nI_eq (by omega) (by omega)) (fun r => ?_) (fun r => ?_))
      · refine And.intro il (nm_r (e' := upd nx l (nI f)) (by rw [cl]) ?_)
        exact px_w50 (by omega) (hp _ _ (ps_woB hT F (by omega) (by omega) hf hw hm r))
      · exact px_w41 (by omega) nf.2.1 nf.2.2 (hp _ _ (ps_woA hT F (by omega) (by omega) hf hw hm r).2)
