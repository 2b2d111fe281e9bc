/-! finish, the reference's side, and the case. -/
theorem ps_tt1 {T n : Nat} (hT : ps_T34 T) (h1 : 1 ≤ n) (hn : n + T ≤ 10) : 1 ≤ ps_pa T n (T - 2) ∧ (∀ j, j + 1 < T → ps_pa T n (T - 2) ≤ ps_pa T n j) := by
  rcases hT with e | e
  · subst e
    have t := ps_tab3 n (by omega)
    refine ⟨by show 1 ≤ ps_pa 3 n 1; omega, fun j hj => ?_⟩
    show ps_pa 3 n 1 ≤ ps_pa 3 n j
    have c : j = 0 ∨ j = 1 := by omega
    rcases c with c | c <;> subst c <;> omega
  · subst e
    have t := ps_tab4 n (by omega)
    refine ⟨by show 1 ≤ ps_pa 4 n 2; omega, fun j hj => ?_⟩
    show ps_pa 4 n 2 ≤ ps_pa 4 n j
    have c : j = 0 ∨ j = 1 ∨ j = 2 := by omega
    rcases c with c | c | c <;> subst c <;> omega
/-! the case -/
theorem ps_FeedE {c R : Nat} {L : Nat → Nat → Prop} {rn : Nat → Nat} {wr : Nat → Prop} {nx fo : Nat → Int32} {lW : Int32} (F : ps_Feed c L rn wr nx fo lW) (al : ∀ x, x < c → wr x) (hR : ps_Rn c R rn) :
    (∀ r, 1 ≤ r → r ≤ R → ps_mi L (fun x => x < c ∧ rn x = r) (fo (r - 1))) ∧ (∀ x, x < c → ps_mi L (fun y => y < c ∧ rn y = rn x ∧ L x y) (nx x)) := by
  obtain ⟨wc, h⟩ := F
  rcases h with ⟨_, n, _⟩ | ⟨l, _, hl, hle, _, hfo, hnx⟩
  · have c0 : c = 0 := by
      by_cases e : c = 0
      · exact e
      · exact absurd (al 0 (by omega)) (n 0)
    have R0 := hR.2.1 c0
    exact ⟨fun r a b => by omega, fun x hx => by omega⟩
  · have lc := wc l hl
    have eR : rn l = R := by
      obtain ⟨x, hx, ex⟩ := hR.2.2.1 (by omega)
      have a := (hR.1 l lc).2
      rcases hle x (al x hx) with q | q
      · rw [← q]; exact ex
      · have := ps_R_le q; omega
    refine ⟨fun r a b => ps_mi_c (fun y => ⟨fun z => ⟨wc y z.1, z.2⟩, fun z => ⟨al y z.1, z.2⟩⟩) (hfo r a (by omega)), fun x hx => ps_mi_c (fun y => ⟨fun z => ⟨wc y z.1, z.2⟩, fun z => ⟨al y z.1, z.2⟩⟩) (hnx x (al x hx))⟩
/-- one live slot alone: the whole is sorted -/
theorem ps_toS {c s0 : Nat} {L : Nat → Nat → Prop} {own : Nat → Nat} {live : Nat → Prop} {nx rs : Nat → Int32} (O : ps_Own c L own live nx rs) (h0 : live s0) (h1 : ∀ s, live s → s = s0) :
    ps_mi L (fun x => x < c) (rs s0) ∧ (∀ x, x < c → ps_mi L (fun y => y < c ∧ L x y) (nx x)) := by
  obtain ⟨a, m, n⟩ := O
  have eo : ∀ x, x < c → own x = s0 := fun x hx => h1 _ (a x hx)
  refine ⟨ps_mi_c (fun y => ⟨fun z => z.1, fun z => ⟨z, eo y z⟩⟩) (m s0 h0), fun x hx => ps_mi_c (fun y => ⟨fun z => ⟨z.1, z.2.2⟩, fun z => ⟨z.1, (eo y z.1).trans (eo x hx).symm, z.2⟩⟩) (n x hx)⟩
theorem px_fro {tT wS rL sg rC gR hd lW lv oN ur cR : Int32} {K V N nx ws fo pr rs fs rc mh : Nat → Int32} {post : Int32 → Prop} {f p : Nat} (hf : f < 4) (hfs : fs f = nI p) (hp32 : p < 32) (hp : post (rs (f * 32 + p))) : wpX_firstRunOn post (tT, wS, rL, sg, rC, gR, hd, lW, lv, oN, ur, cR, K, V, N, nx, ws, fo, pr, rs, fs, rc, mh) (nI f) := by
  have ef : (nI f).toNatClampNeg = f := nI_clamp (by omega)
  have ex : nI f * 32 + fs (nI f).toNatClampNeg = nI (f * 32 + p) := by
    have h1 : nI f * 32 = nI (f * 32) := pk_mul f 32
    rw [ef, hfs, h1, nI_add]
  refine And.intro (vp_in_nI hf (by decide)) (And.intro (by rw [ex]; exact vp_in_nI (by omega) (by decide)) ?_)
  rw [ex, nI_clamp (by omega)]
  exact hp
theorem px_es {tT wS rL sg rC gR hd lW lv ur cR : Int32} {K V N nx ws fo pr rs fs rc mh : Nat → Int32} {post : St2 → Prop} {f p : Nat} (hf : f < 4) (hfs : fs f = nI p) (hp32 : p < 32) (hp : post (tT, wS, rL, 2, rC, gR, hd, lW, lv, nI f, rs (f * 32 + p), -1, K, V, N, nx, ws, fo, pr, rs, fs, rc, mh)) : wpX_enterSorted post (tT, wS, rL, sg, rC, gR, hd, lW, lv, nI f, ur, cR, K, V, N, nx, ws, fo, pr, rs, fs, rc, mh) := by
  unfold wpX_enterSorted wpX_goToStart
  exact px_fro hf hfs hp32 hp
