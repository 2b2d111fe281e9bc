/-! put. -/
theorem ps_LK {K : Nat → Int32} {c : Nat} {k : Int32} : ∀ x y, x < c → y < c → (ps_L (upd K c k) x y ↔ ps_L K x y) := by
  intro x y hx hy
  unfold ps_L
  rw [pk_un (by omega), pk_un (by omega)]
theorem px_97 {tT wS rL sg rC hd lW lv oN ur cR : Int32} {K V N nx ws fo pr rs fs rc mh : Nat → Int32} {post : Int32 → St2 → Prop} {c r R : Nat} (hc : c < 64) (eN : N c = nI r) (hr : r < 1000) (hR : R < 1000)
    (h0 : r ≤ R → post 0 (tT, wS, rL, sg, rC, nI R, hd, lW, lv, oN, ur, cR, K, V, N, nx, ws, fo, pr, rs, fs, rc, mh)) (h1 : R < r → post 0 (tT, wS, rL, sg, rC, nI r, hd, lW, lv, oN, ur, cR, K, V, N, nx, ws, fo, pr, rs, fs, rc, mh)) : wX_put_97 post (nI c) tT wS rL sg rC (nI R) hd lW lv oN ur cR K V N nx ws fo pr rs fs rc mh := by
  have ec : N (nI c).toNatClampNeg = nI r := by rw [nI_clamp (by omega)]; exact eN
  refine And.intro (vp_in_nI hc (by decide)) (ps_if (d := r ≤ R) (by rw [ec]; exact nI_leI (by omega) (by omega)) h0 (fun q => ?_))
  exact And.intro (vp_in_nI hc (by decide)) (nm_r ec (h1 (by omega)))
theorem px_putF {tT lW lv oN ur cR : Int32} {K V N nx ws fo pr rs fs rc mh : Nat → Int32} {post : Int32 → St2 → Prop} {A W c R h : Nat} {k v : Int32} (hA : A ≤ 64) (hW : W ≤ 8) (hc : c < A) (hh : h < W) (hR : R < 1000)
    (h0 : 1 ≤ R → post 0 (tT, nI W, nI A, 0, nI (c + 1), nI R, nI (h + 1), lW, lv, oN, ur, cR, upd K c k, upd V c v, upd N c 1, nx, upd ws h (nI c), fo, pr, rs, fs, rc, mh))
    (h1 : R < 1 → post 0 (tT, nI W, nI A, 0, nI (c + 1), nI 1, nI (h + 1), lW, lv, oN, ur, cR, upd K c k, upd V c v, upd N c 1, nx, upd ws h (nI c), fo, pr, rs, fs, rc, mh)) :
    wpX_put post (tT, nI W, nI A, 0, nI c, nI R, nI h, lW, lv, oN, ur, cR, K, V, N, nx, ws, fo, pr, rs, fs, rc, mh) k v := by
  have ec : (nI c).toNatClampNeg = c := nI_clamp (by omega)
  have ic : vp_in (nI c) 64 := vp_in_nI (by omega) (by decide)
  refine br_t rfl (ps_if (d := c < A) (nI_ltI (by omega) (by omega)) (fun _ => ?_) (fun q => absurd hc q))
  refine And.intro ic (nm_r (e' := upd K c k) (by rw [ec]) (And.intro ic (nm_r (e' := upd V c v) (by rw [ec]) (nm_r (nI_1 c) ?_))))
  refine ps_if (d := W ≤ h) (nI_leI (by omega) (by omega)) (fun q => absurd q (by omega)) (fun _ => ?_)
  refine And.intro ic (nm_r (e' := upd N c 1) (by rw [ec]) (And.intro (vp_in_nI (by omega) (by decide)) (nm_r (e' := upd ws h (nI c)) (by rw [nI_clamp (by omega)]) (nm_r (nI_1 h) ?_))))
  exact px_97 (r := 1) (by omega) pk_us (by omega) hR h0 h1
theorem px_61 {tT wS rL sg rC gR hd lW lv oN ur cR : Int32} {K V N nx ws fo pr rs fs rc mh : Nat → Int32} {post : St2 → Prop} {c b f r : Nat} {rn : Nat → Nat} {wr : Nat → Prop} (hc : c < 64) (hb : b < 8) (F : ps_Feed c (ps_L K) rn wr nx fo lW)
    (hN : ∀ x, x < c → N x = nI (rn x) ∧ 1 ≤ rn x ∧ rn x ≤ 64) (hf : f < c) (hw : ¬ wr f) (hm : ∀ y, y < c → ¬ wr y → y = f ∨ ps_R rn (ps_L K) f y)
    (hp : ∀ nx' fo' : Nat → Int32, ps_Feed c (ps_L K) (ps_un rn c r) (fun x => wr x ∨ x = f) nx' fo' (nI f) → post (tT, wS, rL, sg, rC, gR, hd, nI f, lv, oN, ur, cR, K, V, upd N c (nI r), nx', upd ws b (nI c), fo', pr, rs, fs, rc, mh)) :
    wX_replaceFront_61 post (nI c) (nI b) (nI f) (nI r) (nI c) tT wS rL sg rC gR hd lW lv oN ur cR K V N nx ws fo pr rs fs rc mh := by
  refine And.intro (vp_in_nI hc (by decide)) (nm_r (e' := upd N c (nI r)) (by rw [nI_clamp (by omega)]) ?_)
  have er : ∀ x, x < c → ps_un rn c r x = rn x := fun x hx => ps_uo (by omega)
  have F' := ps_FeedC (L' := ps_L K) (rn' := ps_un rn c r) (fun _ _ _ _ => Iff.rfl) er F
  refine px_wo (rn := ps_un rn c r) (wr := wr) (by omega) F' (fun x hx => ?_) hf hw (fun y hy hw' => ?_) (fun nx' fo' F'' => ?_)
  · rw [er x hx, pk_un (by omega)]; exact hN x hx
  · rcases hm y hy hw' with q | q
    · exact Or.inl q
    · right
      rcases q with q | q
      · left; rw [er f hf, er y hy]; exact q
      · right; rw [er f hf, er y hy]; exact q
  · exact And.intro (vp_in_nI hb (by decide)) (nm_r (e' := upd ws b (nI c)) (by rw [nI_clamp (by omega)]) (hp nx' fo' F''))
theorem px_rf {tT wS rL sg rC gR lW lv oN ur cR : Int32} {K V N nx ws fo pr rs fs rc mh : Nat → Int32} {post : St2 → Prop} {c h : Nat} {w rn : Nat → Nat} {wr : Nat → Prop} (hc : c < 64) (F : ps_Feed c (ps_L K) rn wr nx fo lW)
    (hN : ∀ x, x < c → N x = nI (rn x) ∧ 1 ≤ rn x ∧ rn x ≤ 64) (h1 : 1 ≤ h) (h8 : h ≤ 8) (Wk : ps_Ws c h w wr) (hw : ∀ j, j < h → ws j = nI (w j))
    (hp : ∀ b r, b < h → (∀ y, y < c → ¬ wr y → y = w b ∨ ps_R rn (ps_L K) (w b) y) → ((K c).toInt < (K (w b)).toInt → r = rn (w b) + 1) → (¬ (K c).toInt < (K (w b)).toInt → r = rn (w b)) →
      ∀ nx' fo' : Nat → Int32, ps_Feed c (ps_L K) (ps_un rn c r) (fun x => wr x ∨ x = w b) nx' fo' (nI (w b)) → post (tT, wS, rL, sg, rC, gR, nI h, nI (w b), lv, oN, ur, cR, K, V, upd N c (nI r), nx', upd ws b (nI c), fo', pr, rs, fs, rc, mh)) :
    wpX_replaceFront post (tT, wS, rL, sg, rC, gR, nI h, lW, lv, oN, ur, cR, K, V, N, nx, ws, fo, pr, rs, fs, rc, mh) (nI c) := by
  have C : px_Cl h w rn N ws := by
    refine ⟨h8, fun j hj => ?_, Wk.2.1⟩
    have a := Wk.1 j hj
    have n := hN _ a.1
    exact ⟨hw j hj, by omega, n.1, by omega⟩
  unfold wpX_replaceFront
  refine px_fc C h1 (fun b hb hmin => ?_)
  have wb := Wk.1 b hb
  have nb := hN _ wb.1
  have ec : (nI c).toNatClampNeg = c := nI_clamp (by omega)
  have ef : (nI (w b)).toNatClampNeg = w b := nI_clamp (by omega)
  have iff : vp_in (nI (w b)) 64 := vp_in_nI (by omega) (by decide)
  have hm : ∀ y, y < c → ¬ wr y → y = w b ∨ ps_R rn (ps_L K) (w b) y := by
    intro y hy hwy
    obtain ⟨j, hj, ej⟩ := Wk.2.2 y hy hwy
    rcases hmin j hj with q | q
    · left; rw [← ej, q]
    · right; rw [← ej]; exact q
  refine And.intro (vp_in_nI (by omega) (by decide)) (nm_r (e' := nI (w b)) (by rw [nI_clamp (by omega)]; exact hw b hb) (And.intro (vp_in_nI hc (by decide)) (And.intro iff (ps_if (d := (K c).toInt < (K (w b)).toInt) (by rw [ec, ef]; exact ps_klt _ _) (fun q => ?_) (fun q => ?_)))))
  · refine br_t rfl (And.intro iff ?_)
    have er : N (nI (w b)).toNatClampNeg + 1 = nI (rn (w b) + 1) := by rw [ef, nb.1, nI_1]
    rw [er]
    exact px_61 hc (by omega) F hN wb.1 wb.2 hm (hp b (rn (w b) + 1) hb hm (fun _ => rfl) (fun z => absurd q z))
  · refine br_f (by decide) (And.intro iff ?_)
    have er : N (nI (w b)).toNatClampNeg = nI (rn (w b)) := by rw [ef, nb.1]
    rw [er]
    exact px_61 hc (by omega) F hN wb.1 wb.2 hm (hp b (rn (w b)) hb hm (fun z => absurd z q) (fun _ => rfl))
theorem px_putW {tT lW lv oN ur cR : Int32} {K V N nx ws fo pr rs fs rc mh : Nat → Int32} {post : Int32 → St2 → Prop} {A W c R h : Nat} {k v : Int32} {w rn : Nat → Nat} {wr : Nat → Prop} (hA : A ≤ 64) (hc : c < A) (hh : W ≤ h) (h1 : 1 ≤ h) (h8 : h ≤ 8) (hR : R ≤ 64)
    (F : ps_Feed c (ps_L K) rn wr nx fo lW) (hN : ∀ x, x < c → N x = nI (rn x) ∧ 1 ≤ rn x ∧ rn x ≤ 64) (Wk : ps_Ws c h w wr) (hw : ∀ j, j < h → ws j = nI (w j))
    (hp : ∀ b r R', b < h → (∀ y, y < c → ¬ wr y → y = w b ∨ ps_R rn (ps_L K) (w b) y) → (k.toInt < (K (w b)).toInt → r = rn (w b) + 1) → (¬ k.toInt < (K (w b)).toInt → r = rn (w b)) → (r ≤ R → R' = R) → (R < r → R' = r) →
      ∀ nx' fo' : Nat → Int32, ps_Feed c (ps_L (upd K c k)) (ps_un rn c r) (fun x => wr x ∨ x = w b) nx' fo' (nI (w b)) →
      post 0 (tT, nI W, nI A, 0, nI (c + 1), nI R', nI h, nI (w b), lv, oN, ur, cR, upd K c k, upd V c v, upd N c (nI r), nx', upd ws b (nI c), fo', pr, rs, fs, rc, mh)) :
    wpX_put post (tT, nI W, nI A, 0, nI c, nI R, nI h, lW, lv, oN, ur, cR, K, V, N, nx, ws, fo, pr, rs, fs, rc, mh) k v := by
  have ec : (nI c).toNatClampNeg = c := nI_clamp (by omega)
  have ic : vp_in (nI c) 64 := vp_in_nI (by omega) (by decide)
  have F' := ps_FeedC (L' := ps_L (upd K c k)) (rn' := rn) ps_LK (fun _ _ => rfl) F
  refine br_t rfl (ps_if (d := c < A) (nI_ltI (by omega) (by omega)) (fun _ => ?_) (fun q => absurd hc q))
  refine And.intro ic (nm_r (e' := upd K c k) (by rw [ec]) (And.intro ic (nm_r (e' := upd V c v) (by rw [ec]) (nm_r (nI_1 c) ?_))))
  refine ps_if (d := W ≤ h) (nI_leI (by omega) (by omega)) (fun _ => ?_) (fun q => absurd hh q)
  refine px_rf (w := w) (rn := rn) (wr := wr) (by omega) F' hN h1 h8 Wk hw (fun b r hb hm r1 r2 nx' fo' F'' => ?_)
  have wb := Wk.1 b hb
  have nb := hN _ wb.1
  rw [pk_us, pk_un (by omega)] at r1 r2
  have hm' : ∀ y, y < c → ¬ wr y → y = w b ∨ ps_R rn (ps_L K) (w b) y := by
    intro y hy hwy
    rcases hm y hy hwy with q | q
    · exact Or.inl q
    · right
      rcases q with q | q
      · exact Or.inl q
      · exact Or.inr ⟨q.1, (ps_LK _ _ wb.1 hy).1 q.2⟩
  have hr : r < 1000 := by
    by_cases z : k.toInt < (K (w b)).toInt
    · have := r1 z; omega
    · have := r2 z; omega
  refine px_97 (r := r) (by omega) pk_us hr (by omega) (fun q => ?_) (fun q => ?_)
  · exact hp b r R hb hm' r1 r2 (fun _ => rfl) (fun z => by omega) nx' fo' F''
  · exact hp b r r hb hm' r1 r2 (fun z => by omega) (fun _ => rfl) nx' fo' F''
/-! the reference's side -/
def ps_cn (a : Nat → Int32) : Nat → Nat
  | 0 => 0
  | n + 1 => ps_cn a n + if a n = 0 then 0 else 1
theorem ps_cn_s (a : Nat → Int32) (n : Nat) : ps_cn a (n + 1) = ps_cn a n + if a n = 0 then 0 else 1 := rfl
theorem ps_cn_c {a b : Nat → Int32} : ∀ n, (∀ x, x < n → a x = b x) → ps_cn a n = ps_cn b n := by
  intro n
  induction n with
  | zero => intro _; rfl
  | succ n ih =>
    intro h
    rw [ps_cn_s, ps_cn_s, ih (fun x hx => h x (by omega)), h n (by omega)]
theorem ps_cn_u {a : Nat → Int32} {s : Nat} (hs : ¬ a s = 0) : ∀ n, s < n → ps_cn (upd a s 0) n + 1 = ps_cn a n := by
  intro n
  induction n with
  | zero => intro h; omega
  | succ n ih =>
    intro h
    rw [ps_cn_s, ps_cn_s]
    by_cases e : s = n
    · subst e
      rw [pk_us, if_pos rfl, if_neg hs, ps_cn_c (a := upd a s 0) (b := a) s (fun x hx => pk_un (by omega))]
    · rw [pk_un (by omega)]
      have := ih (by omega)
      omega
theorem ps_cn_le (a : Nat → Int32) : ∀ n, ps_cn a n ≤ n := by
  intro n
  induction n with
  | zero => exact Nat.le_refl 0
  | succ n ih =>
    rw [ps_cn_s]
    split <;> omega
theorem ps_vb0 : vp_nar .boolean 0 = 0 := by decide
theorem ps_vb1 : vp_nar .boolean 1 = 1 := by decide
theorem ps_n1 : (-1 : Int32) < 0 := by decide
/-- one more in the set of those below i -/
theorem ps_mi_s {L : Nat → Nat → Prop} {P : Nat → Prop} {x : Int32} {i : Nat} (h : ps_mi L (fun y => y < i ∧ P y) x) (n : ¬ P i) : ps_mi L (fun y => y < i + 1 ∧ P y) x := by
  refine ps_mi_c ?_ h
  intro y
  constructor
  · intro a; exact ⟨by have := a.1; omega, a.2⟩
  · intro a
    refine ⟨?_, a.2⟩
    by_cases e : y = i
    · rw [e] at a; exact absurd a.2 n
    · have := a.1; omega
theorem ps_mi_k {L : Nat → Nat → Prop} {P : Nat → Prop} {b i : Nat} (p : P b) (hb : b < i) (m : ∀ y, y < i ∧ P y → y = b ∨ L b y) (h : L b i) : ps_mi L (fun y => y < i + 1 ∧ P y) (nI b) := by
  refine ps_mi_1 b ⟨by omega, p⟩ ?_
  intro y hy
  by_cases e : y = i
  · rw [e]; exact Or.inr h
  · exact m y ⟨by have := hy.1; omega, hy.2⟩
theorem ps_mi_n {L : Nat → Nat → Prop} {P : Nat → Prop} {i : Nat} (p : P i) (m : ∀ y, y < i → P y → L i y) : ps_mi L (fun y => y < i + 1 ∧ P y) (nI i) := by
  refine ps_mi_1 i ⟨by omega, p⟩ ?_
  intro y hy
  by_cases e : y = i
  · exact Or.inl e
  · exact Or.inr (m y (by have := hy.1; omega) hy.2)
