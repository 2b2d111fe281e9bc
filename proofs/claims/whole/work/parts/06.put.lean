/-! put. -/
theorem ps_LK {K : Nat → Int32} {c : Nat} {k : Int32} : ∀ x y, x < c → y < c → (ps_L (upd K c k) x y ↔ ps_L K x y) := by
  intro x y hx hy
  unfold ps_L
  rw [pk_un (by omega), pk_un (by omega)]
theorem px_97 {tT wS rL sg rC hd lW lv oN ur cR : Int32} {K V N nx ws fo pr rs fs rc mh : Nat → Int32} {post : Int32 → SX → Prop} {c r R : Nat} (hc : c < 64) (eN : N c = nI r) (hr : r < 1000) (hR : R < 1000)
    (h0 : r ≤ R → post 0 (tT, wS, rL, sg, rC, nI R, hd, lW, lv, oN, ur, cR, K, V, N, nx, ws, fo, pr, rs, fs, rc, mh)) (h1 : R < r → post 0 (tT, wS, rL, sg, rC, nI r, hd, lW, lv, oN, ur, cR, K, V, N, nx, ws, fo, pr, rs, fs, rc, mh)) : wX_put_97 post (nI c) tT wS rL sg rC (nI R) hd lW lv oN ur cR K V N nx ws fo pr rs fs rc mh := by
  have ec : N (nI c).toNatClampNeg = nI r := by rw [nI_clamp (by omega)]; exact eN
  refine And.intro (vp_in_nI hc (by decide)) (ps_if (d := r ≤ R) (by rw [ec]; exact nI_leI (by omega) (by omega)) h0 (fun q => ?_))
  exact And.intro (vp_in_nI hc (by decide)) (nm_r ec (h1 (by omega)))
theorem px_putF {tT lW lv oN ur cR : Int32} {K V N nx ws fo pr rs fs rc mh : Nat → Int32} {post : Int32 → SX → Prop} {A W c R h : Nat} {k v : Int32} (hA : A ≤ 64) (hW : W ≤ 8) (hc : c < A) (hh : h < W) (hR : R < 1000)
    (h0 : 1 ≤ R → post 0 (tT, nI W, nI A, 0, nI (c + 1), nI R, nI (h + 1), lW, lv, oN, ur, cR, upd K c k, upd V c v, upd N c 1, nx, upd ws h (nI c), fo, pr, rs, fs, rc, mh))
    (h1 : R < 1 → post 0 (tT, nI W, nI A, 0, nI (c + 1), nI 1, nI (h + 1), lW, lv, oN, ur, cR, upd K c k, upd V c v, upd N c 1, nx, upd ws h (nI c), fo, pr, rs, fs, rc, mh)) :
    wpX_put post (tT, nI W, nI A, 0, nI c, nI R, nI h, lW, lv, oN, ur, cR, K, V, N, nx, ws, fo, pr, rs, fs, rc, mh) k v := by
  have ec : (nI c).toNatClampNeg = c := nI_clamp (by omega)
  have ic : vp_in (nI c) 64 := vp_in_nI (by omega) (by decide)
  refine br_t rfl (ps_if (d := c < A) (nI_ltI (by omega) (by omega)) (fun _ => ?_) (fun q => absurd hc q))
  refine And.intro ic (nm_r (e' := upd K c k) (by rw [ec]) (And.intro ic (nm_r (e' := upd V c v) (by rw [ec]) (nm_r (nI_1 c) ?_))))
  refine ps_if (d := W ≤ h) (nI_leI (by omega) (by omega)) (fun q => absurd q (by omega)) (fun _ => ?_)
  refine And.intro ic (nm_r (e' := upd N c 1) (by rw [ec]) (And.intro (vp_in_nI (by omega) (by decide)) (nm_r (e' := upd ws h (nI c)) (by rw [nI_clamp (by omega)]) (nm_r (nI_1 h) ?_))))
  exact px_97 (r := 1) (by omega) pk_us (by omega) hR h0 h1
theorem px_61 {tT wS rL sg rC gR hd lW lv oN ur cR : Int32} {K V N nx ws fo pr rs fs rc mh : Nat → Int32} {post : SX → Prop} {c b f r : Nat} {rn : Nat → Nat} {wr : Nat → Prop} (hc : c < 64) (hb : b < 8) (F : ps_Feed c (ps_L K) rn wr nx fo lW)
    (hN : ∀ x, x < c → N x = nI (rn x) ∧ 1 ≤ rn x ∧ rn x ≤ 64) (hf : f < c) (hw : ¬ wr f) (hm : ∀ y, y < c → ¬ wr y → y = f ∨ ps_R rn (ps_L K) f y)
    (hp : ∀ nx' fo' : Nat → Int32, ps_Feed c (ps_L K) (ps_un rn c r) (fun x => wr x ∨ x = f) nx' fo' (nI f) → post (tT, wS, rL, sg, rC, gR, hd, nI f, lv, oN, ur, cR, K, V, upd N c (nI r), nx', upd ws b (nI c), fo', pr, rs, fs, rc, mh)) :
    wX_replaceFront_61 post (nI c) (nI b) (nI f) (nI r) (nI c) tT wS rL sg rC gR hd lW lv oN ur cR K V N nx ws fo pr rs fs rc mh := by
  refine And.intro (vp_in_nI hc (by decide)) (nm_r (e' := upd N c (nI r)) (by rw [nI_clamp (by omega)]) ?_)
  have er : ∀ x, x < c → ps_un rn c r x = rn x := fun x hx => ps_uo (by omega)
  have F' := ps_FeedC (L' := ps_L K) (rn' := ps_un rn c r) (fun _ _ _ _ => Iff.rfl) er F
  refine px_wo (rn := ps_un rn c r) (wr := wr) (by omega) F' (fun x hx => ?_) hf hw (fun y hy hw' => ?_) (fun nx' fo' F'' => ?_)
  · rw [er x hx, pk_un (by omega)]; exact hN x hx
  · rcases hm y hy hw' with q | q
    · exact Or.inl q
    · right
      rcases q with q | q
      · left; rw [er f hf, er y hy]; exact q
      · right; rw [er f hf, er y hy]; exact q
  · exact And.intro (vp_in_nI hb (by decide)) (nm_r (e' := upd ws b (nI c)) (by rw [nI_clamp (by omega)]) (hp nx' fo' F''))
theorem px_rf {tT wS rL sg rC gR lW lv oN ur cR : Int32} {K V N nx ws fo pr rs fs rc mh : Nat → Int32} {post : SX → Prop} {c h : Nat} {w rn : Nat → Nat} {wr : Nat → Prop} (hc : c < 64) (F : ps_Feed c (ps_L K) rn wr nx fo lW)
    (hN : ∀ x, x < c → N x = nI (rn x) ∧ 1 ≤ rn x ∧ rn x ≤ 64) (h1 : 1 ≤ h) (h8 : h ≤ 8) (Wk : ps_Ws c h w wr) (hw : ∀ j, j < h → ws j = nI (w j))
    (hp : ∀ b r, b < h → (∀ y, y < c → ¬ wr y → y = w b ∨ ps_R rn (ps_L K) (w b) y) → ((K c).toInt < (K (w b)).toInt → r = rn (w b) + 1) → (¬ (K c).toInt < (K (w b)).toInt → r = rn (w b)) →
      ∀ nx' fo' : Nat → Int32, ps_Feed c (ps_L K) (ps_un rn c r) (fun x => wr x ∨ x = w b) nx' fo' (nI (w b)) → post (tT, wS, rL, sg, rC, gR, nI h, nI (w b), lv, oN, ur, cR, K, V, upd N c (nI r), nx', upd ws b (nI c), fo', pr, rs, fs, rc, mh)) :
    wpX_replaceFront post (tT, wS, rL, sg, rC, gR, nI h, lW, lv, oN, ur, cR, K, V, N, nx, ws, fo, pr, rs, fs, rc, mh) (nI c) := by
  have C : px_Cl h w rn N ws := by
    refine ⟨h8, fun j hj => ?_, Wk.2.1⟩
    have a := Wk.1 j hj
    have n := hN _ a.1
    exact ⟨hw j hj, by omega, n.1, by omega⟩
  unfold wpX_replaceFront
  refine px_fc C h1 (fun b hb hmin => ?_)
  have wb := Wk.1 b hb
  have nb := hN _ wb.1
  have ec : (nI c).toNatClampNeg = c := nI_clamp (by omega)
  have ef : (nI (w b)).toNatClampNeg = w b := nI_clamp (by omega)
  have iff : vp_in (nI (w b)) 64 := vp_in_nI (by omega) (by decide)
  have hm : ∀ y, y < c → ¬ wr y → y = w b ∨ ps_R rn (ps_L K) (w b) y := by
    intro y hy hwy
    obtain ⟨j, hj, ej⟩ := Wk.2.2 y hy hwy
    rcases hmin j hj with q | q
    · left; rw [← ej, q]
    · right; rw [← ej]; exact q
  refine And.intro (vp_in_nI (by omega) (by decide)) (nm_r (e' := nI (w b)) (by rw [nI_clamp (by omega)]; exact hw b hb) (And.intro (vp_in_nI hc (by decide)) (And.intro iff (ps_if (d := (K c).toInt < (K (w b)).toInt) (by rw [ec, ef]; exact ps_klt _ _) (fun q => ?_) (fun q => ?_)))))
  · refine br_t rfl (And.intro iff ?_)
    have er : N (nI (w b)).toNatClampNeg + 1 = nI (rn (w b) + 1) := by rw [ef, nb.1, nI_1]
    rw [er]
    exact px_61 hc (by omega) F hN wb.1 wb.2 hm (hp b (rn (w b) + 1) hb hm (fun _ => rfl) (fun z => absurd q z))
  · refine br_f (by decide) (And.intro iff ?_)
    have er : N (nI (w b)).toNatClampNeg = nI (rn (w b)) := by rw [ef, nb.1]
    rw [er]
    exact px_61 hc (by omega) F hN wb.1 wb.2 hm (hp b (rn (w b)) hb hm (fun z => absurd z q) (fun _ => rfl))
theorem px_putW {tT lW lv oN ur cR : Int32} {K V N nx ws fo pr rs fs rc mh : Nat → Int32} {post : Int32 → SX → Prop} {A W c R h : Nat} {k v : Int32} {w rn : Nat → Nat} {wr : Nat → Prop} (hA : A ≤ 64) (hc : c < A) (hh : W ≤ h) (h1 : 1 ≤ h) (h8 : h ≤ 8) (hR : R ≤ 64)
    (F : ps_Feed c (ps_L K) rn wr nx fo lW) (hN : ∀ x, x < c → N x = nI (rn x) ∧ 1 ≤ rn x ∧ rn x ≤ 64) (Wk : ps_Ws c h w wr) (hw : ∀ j, j < h → ws j = nI (w j))
    (hp : ∀ b r R', b < h → (∀ y, y < c → ¬ wr y → y = w b ∨ ps_R rn (ps_L K) (w b) y) → (k.toInt < (K (w b)).toInt → r = rn (w b) + 1) → (¬ k.toInt < (K (w b)).toInt → r = rn (w b)) → (r ≤ R → R' = R) → (R < r → R' = r) →
      ∀ nx' fo' : Nat → Int32, ps_Feed c (ps_L (upd K c k)) (ps_un rn c r) (fun x => wr x ∨ x = w b) nx' fo' (nI (w b)) →
      post 0 (tT, nI W, nI A, 0, nI (c + 1), nI R', nI h, nI (w b), lv, oN, ur, cR, upd K c k, upd V c v, upd N c (nI r), nx', upd ws b (nI c), fo', pr, rs, fs, rc, mh)) :
    wpX_put post (tT, nI W, nI A, 0, nI c, nI R, nI h, lW, lv, oN, ur, cR, K, V, N, nx, ws, fo, pr, rs, fs, rc, mh) k v := by
  have ec : (nI c).toNatClampNeg = c := nI_clamp (by omega)
  have ic : vp_in (nI c) 64 := vp_in_nI (by omega) (by decide)
  have F' := ps_FeedC (L' := ps_L (upd K c k)) (rn' := rn) ps_LK (fun _ _ => rfl) F
  refine br_t rfl (ps_if (d := c < A) (nI_ltI (by omega) (by omega)) (fun _ => ?_) (fun q => absurd hc q))
  refine And.intro ic (nm_r (e' := upd K c k) (by rw [ec]) (And.intro ic (nm_r (e' := upd V c v) (by rw [ec]) (nm_r (nI_1 c) ?_))))
  refine ps_if (d := W ≤ h) (nI_leI (by omega) (by omega)) (fun _ => ?_) (fun q => absurd hh q)
  refine px_rf (w := w) (rn := rn) (wr := wr) (by omega) F' hN h1 h8 Wk hw (fun b r hb hm r1 r2 nx' fo' F'' => ?_)
  have wb := Wk.1 b hb
  have nb := hN _ wb.1
  rw [pk_us, pk_un (by omega)] at r1 r2
  have hm' : ∀ y, y < c → ¬ wr y → y = w b ∨ ps_R rn (ps_L K) (w b) y := by
    intro y hy hwy
    rcases hm y hy hwy with q | q
    · exact Or.inl q
    · right
      rcases q with q | q
      · exact Or.inl q
      · exact Or.inr ⟨q.1, (ps_LK _ _ wb.1 hy).1 q.2⟩
  have hr : r < 1000 := by
    by_cases z : k.toInt < (K (w b)).toInt
    · have := r1 z; omega
    · have := r2 z; omega
  refine px_97 (r := r) (by omega) pk_us hr (by omega) (fun q => ?_) (fun q => ?_)
  · exact hp b r R hb hm' r1 r2 (fun _ => rfl) (fun z => by omega) nx' fo' F''
  · exact hp b r r hb hm' r1 r2 (fun z => by omega) (fun _ => rfl) nx' fo' F''
/-! the reference's side -/
def ps_cn (a : Nat → Int32) : Nat → Nat
  | 0 => 0
  | n + 1 => ps_cn a n + if a n = 0 then 0 else 1
theorem ps_cn_s (a : Nat → Int32) (n : Nat) : ps_cn a (n + 1) = ps_cn a n + if a n = 0 then 0 else 1 := rfl
theorem ps_cn_c {a b : Nat → Int32} : ∀ n, (∀ x, x < n → a x = b x) → ps_cn a n = ps_cn b n := by
  intro n
  induction n with
  | zero => intro _; rfl
  | succ n ih =>
    intro h
    rw [ps_cn_s, ps_cn_s, ih (fun x hx => h x (by omega)), h n (by omega)]
theorem ps_cn_u {a : Nat → Int32} {s : Nat} (hs : ¬ a s = 0) : ∀ n, s < n → ps_cn (upd a s 0) n + 1 = ps_cn a n := by
  intro n
  induction n with
  | zero => intro h; omega
  | succ n ih =>
    intro h
    rw [ps_cn_s, ps_cn_s]
    by_cases e : s = n
    · subst e
      rw [pk_us, if_pos rfl, if_neg hs, ps_cn_c (a := upd a s 0) (b := a) s (fun x hx => pk_un (by omega))]
    · rw [pk_un (by omega)]
      have := ih (by omega)
      omega
theorem ps_cn_le (a : Nat → Int32) : ∀ n, ps_cn a n ≤ n := by
  intro n
  induction n with
  | zero => exact Nat.le_refl 0
  | succ n ih =>
    rw [ps_cn_s]
    split <;> omega
theorem ps_vb0 : vp_nar .boolean 0 = 0 := by decide
theorem ps_vb1 : vp_nar .boolean 1 = 1 := by decide
theorem ps_n1 : (-1 : Int32) < 0 := by decide
/-- one more in the set of those below i -/
theorem ps_mi_s {L : Nat → Nat → Prop} {P : Nat → Prop} {x : Int32} {i : Nat} (h : ps_mi L (fun y => y < i ∧ P y) x) (n : ¬ P i) : ps_mi L (fun y => y < i + 1 ∧ P y) x := by
  refine ps_mi_c ?_ h
  intro y
  constructor
  · intro a; exact ⟨by have := a.1; omega, a.2⟩
  · intro a
    refine ⟨?_, a.2⟩
    by_cases e : y = i
    · rw [e] at a; exact absurd a.2 n
    · have := a.1; omega
theorem ps_mi_k {L : Nat → Nat → Prop} {P : Nat → Prop} {b i : Nat} (p : P b) (hb : b < i) (m : ∀ y, y < i ∧ P y → y = b ∨ L b y) (h : L b i) : ps_mi L (fun y => y < i + 1 ∧ P y) (nI b) := by
  refine ps_mi_1 b ⟨by omega, p⟩ ?_
  intro y hy
  by_cases e : y = i
  · rw [e]; exact Or.inr h
  · exact m y ⟨by have := hy.1; omega, hy.2⟩
theorem ps_mi_n {L : Nat → Nat → Prop} {P : Nat → Prop} {i : Nat} (p : P i) (m : ∀ y, y < i → P y → L i y) : ps_mi L (fun y => y < i + 1 ∧ P y) (nI i) := by
  refine ps_mi_1 i ⟨by omega, p⟩ ?_
  intro y hy
  by_cases e : y = i
  · exact Or.inl e
  · exact Or.inr (m y (by have := hy.1; omega) hy.2)
theorem py_frl {yT yW yA yg yl yo yL : Int32} {K V N ins row hl : Nat → Int32} {post : Int32 → Prop} {c : Nat} {rn : Nat → Nat} (hc : c ≤ 64) (hN : ∀ x, x < c → N x = nI (rn x) ∧ rn x < 1000)
    (hp : ∀ s, ps_mi (ps_R rn (ps_L K)) (fun y => y < c ∧ ¬ ins y = 0) s → post s) :
    ∀ n i x, i ≤ c → c - i < n → ps_mi (ps_R rn (ps_L K)) (fun y => y < i ∧ ¬ ins y = 0) x → wY_front_4 post yT yW yA yg (nI c) yl yo yL K V N ins row hl n x (nI i) := by
  have hT := ps_R_T (rn := rn) (ps_L_T K)
  intro n
  induction n with
  | zero => intro i x _ h1; omega
  | succ n ih =>
    intro i x hi hn hI
    refine ps_if (d := c ≤ i) (nI_leI (by omega) (by omega)) (fun q => hp x ?_) (fun q => ?_)
    · have e : i = c := by omega
      rw [e] at hI; exact hI
    have ic : i < c := by omega
    have ei : (nI i).toNatClampNeg = i := nI_clamp (by omega)
    have ii : vp_in (nI i) 64 := vp_in_nI (by omega) (by decide)
    refine And.intro ii (ps_if (d := ins i = 0) (by rw [ei]) (fun z => ?_) (fun z => ?_))
    · exact nm_r (nI_1 i) (ih (i + 1) x (by omega) (by omega) (ps_mi_s hI (fun a => a z)))
    · rcases hI with ⟨ex, no⟩ | ⟨b, eb, pb, mb⟩
      · subst ex
        refine br_t ps_n1 (nm_r (nI_1 i) (ih (i + 1) (nI i) (by omega) (by omega) (ps_mi_n z (fun y hy py => absurd ⟨hy, py⟩ (no y)))))
      · subst eb
        have bc : b < c := by have := pb.1; omega
        have e2 : (nI b).toNatClampNeg = b := nI_clamp (by omega)
        have ib : vp_in (nI b) 64 := vp_in_nI (by omega) (by decide)
        have ni := hN i ic
        have nb := hN b bc
        have hit : ps_R rn (ps_L K) i b → ps_mi (ps_R rn (ps_L K)) (fun y => y < i + 1 ∧ ¬ ins y = 0) (nI i) := by
          intro a
          refine ps_mi_n z (fun y hy py => ?_)
          rcases mb y ⟨hy, py⟩ with s | s
          · rw [s]; exact a
          · exact hT.2.1 _ _ _ a s
        have hkp : ps_R rn (ps_L K) b i → ps_mi (ps_R rn (ps_L K)) (fun y => y < i + 1 ∧ ¬ ins y = 0) (nI b) :=
          fun a => ps_mi_k pb.2 pb.1 mb a
        have bi := pb.1
        refine br_f (nI_pos (by omega)) (And.intro ii (And.intro ib (ps_if (d := rn i < rn b) (by rw [ei, e2, ni.1, nb.1]; exact nI_ltI (by omega) (by omega)) (fun r => ?_) (fun r => ?_))))
        · exact nm_r (nI_1 i) (ih (i + 1) (nI i) (by omega) (by omega) (hit (Or.inl r)))
        · refine And.intro ii (And.intro ib (ps_if (d := rn i = rn b) (by rw [ei, e2, ni.1, nb.1]; exact nI_eq (by omega) (by omega)) (fun e => ?_) (fun e => ?_)))
          · refine And.intro ii (And.intro ib (ps_if (d := (K b).toInt ≤ (K i).toInt) (by rw [ei, e2]; exact ps_kle _ _) (fun s => ?_) (fun s => ?_)))
            · exact nm_r (nI_1 i) (ih (i + 1) (nI b) (by omega) (by omega) (hkp (Or.inr ⟨e.symm, by unfold ps_L; omega⟩)))
            · exact nm_r (nI_1 i) (ih (i + 1) (nI i) (by omega) (by omega) (hit (Or.inr ⟨e, by unfold ps_L; omega⟩)))
          · exact nm_r (nI_1 i) (ih (i + 1) (nI b) (by omega) (by omega) (hkp (Or.inl (by omega))))
theorem py_fr {yT yW yA yg yl yo yL : Int32} {K V N ins row hl : Nat → Int32} {post : Int32 → Prop} {c : Nat} {rn : Nat → Nat} (hc : c ≤ 64) (hN : ∀ x, x < c → N x = nI (rn x) ∧ rn x < 1000)
    (hp : ∀ s, ps_mi (ps_R rn (ps_L K)) (fun y => y < c ∧ ¬ ins y = 0) s → post s) : wpY_front post (yT, yW, yA, yg, nI c, yl, yo, yL, K, V, N, ins, row, hl) :=
  Exists.intro (c + 1) (py_frl hc hN hp (c + 1) 0 (-1) (by omega) (by omega) (ps_mi_0 (fun y a => absurd a.1 (Nat.not_lt_zero y))))
theorem py_117 {yT yW yA yg yl yo yL : Int32} {K V N ins row hl : Nat → Int32} {post : Int32 → SY → Prop} {c : Nat} {k v r : Int32} (hc : c < 64)
    (hp : post 0 (yT, yW, yA, yg, nI (c + 1), yl, yo, yL, upd K c k, upd V c v, upd N c r, upd ins c 1, row, hl)) : wY_put_117 post k v r yT yW yA yg (nI c) yl yo yL K V N ins row hl := by
  have ec : (nI c).toNatClampNeg = c := nI_clamp (by omega)
  have ic : vp_in (nI c) 64 := vp_in_nI (by omega) (by decide)
  refine And.intro ic (nm_r (e' := upd K c k) (by rw [ec]) (And.intro ic (nm_r (e' := upd V c v) (by rw [ec]) (And.intro ic (nm_r (e' := upd N c r) (by rw [ec]) (And.intro ic (nm_r (e' := upd ins c 1) (by rw [ec, ps_vb1]) (nm_r (nI_1 c) hp))))))))
theorem py_cnt {yT yW yA yg yl yo yL : Int32} {K V N ins row hl : Nat → Int32} {post : Int32 → SY → Prop} {c : Nat} {k v : Int32} (hc : c ≤ 64) (he : ∀ n, wY_put_27 post k v yT yW yA yg (nI c) yl yo yL K V N ins row hl (n + 1) (nI (ps_cn ins c)) (nI c)) :
    ∀ n i, i ≤ c → c - i < n → wY_put_27 post k v yT yW yA yg (nI c) yl yo yL K V N ins row hl n (nI (ps_cn ins i)) (nI i) := by
  intro n
  induction n with
  | zero => intro i _ h; omega
  | succ n ih =>
    intro i hi hn
    by_cases e : i = c
    · rw [e]; exact he n
    · have ei : (nI i).toNatClampNeg = i := nI_clamp (by omega)
      have s := ih (i + 1) (by omega) (by omega)
      rw [ps_cn_s] at s
      refine ps_if (d := c ≤ i) (nI_leI (by omega) (by omega)) (fun q => absurd q (by omega)) (fun _ => ?_)
      refine And.intro (vp_in_nI (by omega) (by decide)) (ps_if (d := ins i = 0) (by rw [ei]) (fun z => ?_) (fun z => ?_))
      · rw [if_pos z] at s
        exact nm_r (nI_1 i) s
      · rw [if_neg z] at s
        exact nm_r (nI_1 _) (nm_r (nI_1 i) s)
theorem py_putF {yT yl yo yL : Int32} {K V N ins row hl : Nat → Int32} {post : Int32 → SY → Prop} {A W c : Nat} {k v : Int32} {rn : Nat → Nat} (hA : A ≤ 64) (hW : W ≤ 8) (hc : c < A) (hh : ps_cn ins c < W) (hN : ∀ x, x < c → N x = nI (rn x) ∧ rn x < 1000)
    (hp : post 0 (yT, nI W, nI A, 0, nI (c + 1), yl, yo, yL, upd K c k, upd V c v, upd N c 1, upd ins c 1, row, hl)) :
    wpY_put post (yT, nI W, nI A, 0, nI c, yl, yo, yL, K, V, N, ins, row, hl) k v := by
  refine br_t rfl (ps_if (d := c = A) (nI_eq (by omega) (by omega)) (fun q => absurd q (by omega)) (fun _ => ?_))
  refine Exists.intro (c + 1) (py_cnt (by omega) (fun n => ?_) (c + 1) 0 (by omega) (by omega))
  refine br_t (nI_le (Nat.le_refl c) (by omega)) ?_
  refine py_fr (rn := rn) (by omega) hN (fun s _ => ?_)
  exact br_t (nI_lt hh (by omega)) (py_117 (by omega) hp)
theorem py_putW {yT yl yo yL : Int32} {K V N ins row hl : Nat → Int32} {post : Int32 → SY → Prop} {A W c f r : Nat} {k v : Int32} {rn : Nat → Nat} (hA : A ≤ 64) (hc : c < A) (hh : W ≤ ps_cn ins c) (hN : ∀ x, x < c → N x = nI (rn x) ∧ rn x < 1000)
    (hf : f < c) (hi : ¬ ins f = 0) (hm : ∀ y, y < c → ¬ ins y = 0 → y = f ∨ ps_R rn (ps_L K) f y) (r1 : k.toInt < (K f).toInt → r = rn f + 1) (r2 : ¬ k.toInt < (K f).toInt → r = rn f)
    (hp : post 0 (yT, nI W, nI A, 0, nI (c + 1), yl, yo, yL, upd K c k, upd V c v, upd N c (nI r), upd (upd ins f 0) c 1, row, hl)) :
    wpY_put post (yT, nI W, nI A, 0, nI c, yl, yo, yL, K, V, N, ins, row, hl) k v := by
  have hcn := ps_cn_le ins c
  refine br_t rfl (ps_if (d := c = A) (nI_eq (by omega) (by omega)) (fun q => absurd q (by omega)) (fun _ => ?_))
  refine Exists.intro (c + 1) (py_cnt (by omega) (fun n => ?_) (c + 1) 0 (by omega) (by omega))
  refine br_t (nI_le (Nat.le_refl c) (by omega)) ?_
  refine py_fr (rn := rn) (by omega) hN (fun s hs => ?_)
  have es : s = nI f := ps_mi_u (ps_R_T (rn := rn) (ps_L_T K)) hs (ps_mi_1 f ⟨hf, hi⟩ (fun y a => hm y a.1 a.2))
  subst es
  have ef : (nI f).toNatClampNeg = f := nI_clamp (by omega)
  have iff : vp_in (nI f) 64 := vp_in_nI (by omega) (by decide)
  have nf := hN f hf
  refine br_f (nI_nlt hh (by omega)) (br_f (nI_pos (by omega)) (And.intro iff (nm_r (e' := upd ins f 0) (by rw [ef, ps_vb0]) (And.intro iff (ps_if (d := k.toInt < (K f).toInt) (by rw [ef]; exact ps_klt _ _) (fun q => ?_) (fun q => ?_))))))
  · refine And.intro iff ?_
    have er : N (nI f).toNatClampNeg + 1 = nI r := by rw [ef, nf.1, nI_1, r1 q]
    rw [er]
    exact py_117 (by omega) hp
  · refine And.intro iff ?_
    have er : N (nI f).toNatClampNeg = nI r := by rw [ef, nf.1, r2 q]
    rw [er]
    exact py_117 (by omega) hp
