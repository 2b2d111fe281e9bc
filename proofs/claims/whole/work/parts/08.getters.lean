/-! the getters. -/
theorem py_rnl {yT yW yA yg yl yo yL : Int32} {K V N ins row hl : Nat → Int32} {post : Int32 → Prop} {c R : Nat} {rn : Nat → Nat} (hc : c ≤ 64) (hN : ∀ x, x < c → N x = nI (rn x)) (hR : ps_Rn c R rn) (hp : post (nI R)) :
    ∀ n i m, i ≤ c → c - i < n → m ≤ R → (∀ y, y < i → rn y ≤ m) → wY_runs_4 post yT yW yA yg (nI c) yl yo yL K V N ins row hl n (nI m) (nI i) := by
  have h32 := ps_R32 hR hc
  intro n
  induction n with
  | zero => intro i m _ h; omega
  | succ n ih =>
    intro i m hi hn hm ha
    have ei : (nI i).toNatClampNeg = i := nI_clamp (by omega)
    have ii : i < c → vp_in (nI i) 64 := fun h => vp_in_nI (by omega) (by decide)
    refine ps_if (d := c ≤ i) (nI_leI (by omega) (by omega)) (fun q => ?_) (fun q => ?_)
    · have e : m = R := by
        by_cases c0 : c = 0
        · have := hR.2.1 c0; omega
        · obtain ⟨x, hx, ex⟩ := hR.2.2.1 (by omega)
          have := ha x (by omega)
          omega
      rw [e]; exact hp
    · have ic : i < c := by omega
      have ni := hN i ic
      have ri := hR.1 i ic
      refine And.intro (ii ic) (ps_if (d := rn i ≤ m) (by rw [ei, ni]; exact nI_leI (by omega) (by omega)) (fun z => ?_) (fun z => ?_))
      · refine nm_r (nI_1 i) (ih (i + 1) m (by omega) (by omega) hm (fun y hy => ?_))
        by_cases e : y = i
        · rw [e]; exact z
        · exact ha y (by omega)
      · refine And.intro (ii ic) (nm_r (e' := nI (rn i)) (by rw [ei]; exact ni) (nm_r (nI_1 i) (ih (i + 1) (rn i) (by omega) (by omega) ri.2 (fun y hy => ?_))))
        by_cases e : y = i
        · rw [e]; exact Nat.le_refl _
        · have := ha y (by omega); omega
theorem py_rn {yT yW yA yg yl yo yL : Int32} {K V N ins row hl : Nat → Int32} {post : Int32 → Prop} {c R : Nat} {rn : Nat → Nat} (hc : c ≤ 64) (hN : ∀ x, x < c → N x = nI (rn x)) (hR : ps_Rn c R rn) (hp : post (nI R)) : wpY_runs post (yT, yW, yA, yg, nI c, yl, yo, yL, K, V, N, ins, row, hl) :=
  Exists.intro (c + 1) (py_rnl hc hN hR hp (c + 1) 0 0 (by omega) (by omega) (by omega) (fun y h => absurd h (Nat.not_lt_zero y)))
theorem i_vc_runs {k : Nat} {u : SX} {v : SY} (I : i_Rel k u v) (hk : k + 3 ≤ 1539) : wpX_runs (fun r => wpY_runs (fun r' => r' = r ∧ i_Rel (k + 3) u v) v) u := by
  have I' := I
  rcases I with I | I | I
  · obtain ⟨T, W, A, c, R, h, rn, w, wr, lW, yl, yo, K, V, N, nx, ws, fo, pr, rs, fs, rc, mh, ins, row, hl, HC, HF, rfl, rfl⟩ := I
    exact py_rn (by have := HC.2.2.2.2.1; have := HC.2.2.2.2.2.1; omega) HC.2.2.2.2.2.2.1 HC.2.2.2.2.2.2.2 ⟨rfl, I'⟩
  · obtain ⟨e, T, W, A, c, R, n, f, d, rn, fsN, rcN, own, lW, K, V, N, nx, ws, fo, pr, rs, fs, rc, mh, ins, row, hl, HC, HM, hin, rfl, rfl⟩ := I
    exact py_rn (by have := HC.2.2.2.2.1; have := HC.2.2.2.2.2.1; omega) HC.2.2.2.2.2.2.1 HC.2.2.2.2.2.2.2 ⟨rfl, I'⟩
  · obtain ⟨la, T, W, A, c, R, f, p, rn, ur, lW, K, V, N, nx, ws, fo, pr, rs, fs, rc, mh, ins, row, hl, HC, HS, hin, rfl, rfl⟩ := I
    exact py_rn (by have := HC.2.2.2.2.1; have := HC.2.2.2.2.2.1; omega) HC.2.2.2.2.2.2.1 HC.2.2.2.2.2.2.2 ⟨rfl, I'⟩
theorem i_vc_count {k : Nat} {u : SX} {v : SY} (I : i_Rel k u v) (hk : k + 3 ≤ 1539) : wpX_count (fun r => wpY_count (fun r' => r' = r ∧ i_Rel (k + 3) u v) v) u := by
  have I' := I
  rcases I with I | I | I
  · obtain ⟨T, W, A, c, R, h, rn, w, wr, lW, yl, yo, K, V, N, nx, ws, fo, pr, rs, fs, rc, mh, ins, row, hl, HC, HF, rfl, rfl⟩ := I
    exact ⟨rfl, I'⟩
  · obtain ⟨e, T, W, A, c, R, n, f, d, rn, fsN, rcN, own, lW, K, V, N, nx, ws, fo, pr, rs, fs, rc, mh, ins, row, hl, HC, HM, hin, rfl, rfl⟩ := I
    exact ⟨rfl, I'⟩
  · obtain ⟨la, T, W, A, c, R, f, p, rn, ur, lW, K, V, N, nx, ws, fo, pr, rs, fs, rc, mh, ins, row, hl, HC, HS, hin, rfl, rfl⟩ := I
    exact ⟨rfl, I'⟩
theorem i_vc_level {k : Nat} {u : SX} {v : SY} (I : i_Rel k u v) (hk : k + 3 ≤ 1539) : wpX_level (fun r => wpY_level (fun r' => r' = r ∧ i_Rel (k + 3) u v) v) u := by
  have I' := I
  rcases I with I | I | I
  · obtain ⟨T, W, A, c, R, h, rn, w, wr, lW, yl, yo, K, V, N, nx, ws, fo, pr, rs, fs, rc, mh, ins, row, hl, HC, HF, rfl, rfl⟩ := I
    exact br_t rfl ⟨rfl, I'⟩
  · obtain ⟨e, T, W, A, c, R, n, f, d, rn, fsN, rcN, own, lW, K, V, N, nx, ws, fo, pr, rs, fs, rc, mh, ins, row, hl, HC, HM, hin, rfl, rfl⟩ := I
    exact br_f (by decide) ⟨rfl, I'⟩
  · obtain ⟨la, T, W, A, c, R, f, p, rn, ur, lW, K, V, N, nx, ws, fo, pr, rs, fs, rc, mh, ins, row, hl, HC, HS, hin, rfl, rfl⟩ := I
    exact br_f (by decide) ⟨rfl, I'⟩
theorem i_vc_outputTape {k : Nat} {u : SX} {v : SY} (I : i_Rel k u v) (hk : k + 3 ≤ 1539) : wpX_outputTape (fun r => wpY_outputTape (fun r' => r' = r ∧ i_Rel (k + 3) u v) v) u := by
  have I' := I
  rcases I with I | I | I
  · obtain ⟨T, W, A, c, R, h, rn, w, wr, lW, yl, yo, K, V, N, nx, ws, fo, pr, rs, fs, rc, mh, ins, row, hl, HC, HF, rfl, rfl⟩ := I
    exact br_t rfl ⟨rfl, I'⟩
  · obtain ⟨e, T, W, A, c, R, n, f, d, rn, fsN, rcN, own, lW, K, V, N, nx, ws, fo, pr, rs, fs, rc, mh, ins, row, hl, HC, HM, hin, rfl, rfl⟩ := I
    exact br_f (by decide) ⟨rfl, I'⟩
  · obtain ⟨la, T, W, A, c, R, f, p, rn, ur, lW, K, V, N, nx, ws, fo, pr, rs, fs, rc, mh, ins, row, hl, HC, HS, hin, rfl, rfl⟩ := I
    exact br_f (by decide) ⟨rfl, I'⟩
/-- both sides ask the same of a tape, after feeding -/
theorem ps_ro {wS rL sg rC gR hd lW lv oN ur cR : Int32} {K V N nx ws fo pr rs fs rc mh : Nat → Int32} {yW yA yg yc yl yo yL : Int32} {ins row hl : Nat → Int32} {JK JV JN : Nat → Int32} {T : Nat} {x : Int32} (hT : ps_T34 T) (hs : ¬ sg = 0) (hy : ¬ yg = 0) (e : ∀ t, t < T → rc t = hl t) {Q : Prop} (hQ : Q) :
    wpX_runsOn (fun r => wpY_runsOn (fun r' => r' = r ∧ Q) (nI T, yW, yA, yg, yc, yl, yo, yL, JK, JV, JN, ins, row, hl) x) (nI T, wS, rL, sg, rC, gR, hd, lW, lv, oN, ur, cR, K, V, N, nx, ws, fo, pr, rs, fs, rc, mh) x := by
  have t4 := ps_T4 hT
  refine br_f hs ?_
  by_cases h0 : x < 0
  · exact br_t h0 (br_f hy (br_t h0 ⟨rfl, hQ⟩))
  · refine br_f h0 ?_
    by_cases hx : x < nI T
    · obtain ⟨j, hj, ej⟩ := nI_of h0
      subst ej
      have jT := (nI_ltI hj (by omega)).1 hx
      have ij : vp_in (nI j) 4 := vp_in_nI (by omega) (by decide)
      refine br_t hx (And.intro ij (br_f hy (br_f h0 (br_t hx (And.intro ij ⟨?_, hQ⟩)))))
      rw [nI_clamp hj]; exact (e j jT).symm
    · exact br_f hx (br_f hy (br_f h0 (br_f hx ⟨rfl, hQ⟩)))
theorem i_vc_runsOn {k : Nat} {u : SX} {v : SY} (I : i_Rel k u v) (hk : k + 3 ≤ 1539) (v1 : Int32) : wpX_runsOn (fun r => wpY_runsOn (fun r' => r' = r ∧ i_Rel (k + 3) u v) v v1) u v1 := by
  have I' := I
  rcases I with I | I | I
  · obtain ⟨T, W, A, c, R, h, rn, w, wr, lW, yl, yo, K, V, N, nx, ws, fo, pr, rs, fs, rc, mh, ins, row, hl, HC, HF, rfl, rfl⟩ := I
    exact br_t rfl (br_t rfl ⟨rfl, I'⟩)
  · obtain ⟨e, T, W, A, c, R, n, f, d, rn, fsN, rcN, own, lW, K, V, N, nx, ws, fo, pr, rs, fs, rc, mh, ins, row, hl, HC, HM, hin, rfl, rfl⟩ := I
    refine ps_ro HC.1 (by decide) (by decide) (fun t ht => ?_) I'
    rw [HM.2.2.2.2.2.2.2.1 t ht]
    exact (HM.2.2.2.2.2.2.1 t (by have := ps_T4 HC.1; omega)).2.2
  · obtain ⟨la, T, W, A, c, R, f, p, rn, ur, lW, K, V, N, nx, ws, fo, pr, rs, fs, rc, mh, ins, row, hl, HC, HS, hin, rfl, rfl⟩ := I
    exact ps_ro HC.1 (by decide) (by decide) HS.2.2.2.1 I'
/-- field: one answer -/
def ps_fa (C : Int32) (K V N : Nat → Int32) (p q : Int32) : Int32 :=
  if q < 0 then -1 else if ¬ q ≤ 3 then -1 else if p < 0 ∨ ¬ p < C then (if q = 3 then -1 else 0)
  else if q = 0 then K p.toNatClampNeg else if q = 1 then V p.toNatClampNeg else if q = 2 then N p.toNatClampNeg else p
theorem px_fi {tT wS rL sg gR hd lW lv oN ur cR : Int32} {K V N nx ws fo pr rs fs rc mh : Nat → Int32} {post : Int32 → Prop} {c : Nat} {p q : Int32} (hc : c ≤ 64) (hp : post (ps_fa (nI c) K V N p q)) : wpX_field post (tT, wS, rL, sg, nI c, gR, hd, lW, lv, oN, ur, cR, K, V, N, nx, ws, fo, pr, rs, fs, rc, mh) p q := by
  unfold ps_fa at hp
  by_cases q0 : q < 0
  · rw [if_pos q0] at hp; exact br_t q0 hp
  rw [if_neg q0] at hp
  refine br_f q0 ?_
  by_cases q3 : q ≤ 3
  · rw [if_neg (not_not_intro q3)] at hp
    refine br_t q3 ?_
    by_cases p0 : p < 0
    · rw [if_pos (Or.inl p0)] at hp
      refine br_t p0 ?_
      by_cases e3 : q = 3
      · rw [if_pos e3] at hp; exact br_t e3 hp
      · rw [if_neg e3] at hp; exact br_f e3 hp
    · refine br_f p0 ?_
      by_cases pc : p < nI c
      · rw [if_neg (fun z => z.elim p0 (fun y => y pc))] at hp
        obtain ⟨j, hj, ej⟩ := nI_of p0
        have jc : j < c := by rw [ej] at pc; exact (nI_ltI hj (by omega)).1 pc
        have ip : vp_in p 64 := by rw [ej]; exact vp_in_nI (by omega) (by decide)
        refine br_t pc (br_f q0 ?_)
        by_cases q2 : 2 < q
        · have n0 : ¬ q = 0 := fun z => by rw [z] at q2; exact absurd q2 (by decide)
          have n1 : ¬ q = 1 := fun z => by rw [z] at q2; exact absurd q2 (by decide)
          have n2 : ¬ q = 2 := fun z => by rw [z] at q2; exact absurd q2 (by decide)
          rw [if_neg n0, if_neg n1, if_neg n2] at hp
          exact br_t q2 hp
        · refine br_f q2 ?_
          by_cases n0 : q = 0
          · rw [if_pos n0] at hp; exact br_t n0 ⟨ip, hp⟩
          · rw [if_neg n0] at hp
            refine br_f n0 ?_
            by_cases n1 : q = 1
            · rw [if_pos n1] at hp; exact br_t n1 ⟨ip, hp⟩
            · rw [if_neg n1] at hp
              refine br_f n1 ?_
              by_cases n2 : q = 2
              · rw [if_pos n2] at hp; exact br_t n2 ⟨ip, hp⟩
              · exact br_f n2 trivial
      · rw [if_pos (Or.inr pc)] at hp
        refine br_f pc ?_
        by_cases e3 : q = 3
        · rw [if_pos e3] at hp; exact br_t e3 hp
        · rw [if_neg e3] at hp; exact br_f e3 hp
  · rw [if_pos q3] at hp; exact br_f q3 hp
theorem py_fi {yT yW yA yg yl yo yL : Int32} {K V N ins row hl : Nat → Int32} {post : Int32 → Prop} {c : Nat} {p q : Int32} (hc : c ≤ 64) (hp : post (ps_fa (nI c) K V N p q)) : wpY_field post (yT, yW, yA, yg, nI c, yl, yo, yL, K, V, N, ins, row, hl) p q := by
  unfold ps_fa at hp
  by_cases q0 : q < 0
  · rw [if_pos q0] at hp; exact br_t q0 hp
  rw [if_neg q0] at hp
  refine br_f q0 ?_
  by_cases q3 : q ≤ 3
  · rw [if_neg (not_not_intro q3)] at hp
    refine br_t q3 ?_
    by_cases p0 : p < 0
    · rw [if_pos (Or.inl p0)] at hp
      refine br_t p0 ?_
      by_cases e3 : q = 3
      · rw [if_pos e3] at hp; exact br_t e3 hp
      · rw [if_neg e3] at hp; exact br_f e3 hp
    · refine br_f p0 ?_
      by_cases pc : p < nI c
      · rw [if_neg (fun z => z.elim p0 (fun y => y pc))] at hp
        obtain ⟨j, hj, ej⟩ := nI_of p0
        have jc : j < c := by rw [ej] at pc; exact (nI_ltI hj (by omega)).1 pc
        have ip : vp_in p 64 := by rw [ej]; exact vp_in_nI (by omega) (by decide)
        refine br_t pc ?_
        by_cases n0 : q = 0
        · rw [if_pos n0] at hp; exact br_t n0 ⟨ip, hp⟩
        · rw [if_neg n0] at hp
          refine br_f n0 ?_
          by_cases n1 : q = 1
          · rw [if_pos n1] at hp; exact br_t n1 ⟨ip, hp⟩
          · rw [if_neg n1] at hp
            refine br_f n1 ?_
            by_cases n2 : q = 2
            · rw [if_pos n2] at hp; exact br_t n2 ⟨ip, hp⟩
            · rw [if_neg n2] at hp; exact br_f n2 hp
      · rw [if_pos (Or.inr pc)] at hp
        refine br_f pc ?_
        by_cases e3 : q = 3
        · rw [if_pos e3] at hp; exact br_t e3 hp
        · rw [if_neg e3] at hp; exact br_f e3 hp
  · rw [if_pos q3] at hp; exact br_f q3 hp
theorem i_vc_field {k : Nat} {u : SX} {v : SY} (I : i_Rel k u v) (hk : k + 3 ≤ 1539) (v1 : Int32) (v2 : Int32) : wpX_field (fun r => wpY_field (fun r' => r' = r ∧ i_Rel (k + 3) u v) v v1 v2) u v1 v2 := by
  have I' := I
  rcases I with I | I | I
  · obtain ⟨T, W, A, c, R, h, rn, w, wr, lW, yl, yo, K, V, N, nx, ws, fo, pr, rs, fs, rc, mh, ins, row, hl, HC, HF, rfl, rfl⟩ := I
    have hc : c ≤ 64 := by have := HC.2.2.2.2.1; have := HC.2.2.2.2.2.1; omega
    exact px_fi hc (py_fi hc ⟨rfl, I'⟩)
  · obtain ⟨e, T, W, A, c, R, n, f, d, rn, fsN, rcN, own, lW, K, V, N, nx, ws, fo, pr, rs, fs, rc, mh, ins, row, hl, HC, HM, hin, rfl, rfl⟩ := I
    have hc : c ≤ 64 := by have := HC.2.2.2.2.1; have := HC.2.2.2.2.2.1; omega
    exact px_fi hc (py_fi hc ⟨rfl, I'⟩)
  · obtain ⟨la, T, W, A, c, R, f, p, rn, ur, lW, K, V, N, nx, ws, fo, pr, rs, fs, rc, mh, ins, row, hl, HC, HS, hin, rfl, rfl⟩ := I
    have hc : c ≤ 64 := by have := HC.2.2.2.2.1; have := HC.2.2.2.2.2.1; omega
    exact px_fi hc (py_fi hc ⟨rfl, I'⟩)
theorem i_vc_current {k : Nat} {u : SX} {v : SY} (I : i_Rel k u v) (hk : k + 3 ≤ 1539) (v1 : Int32) : wpX_current (fun r => wpY_current (fun r' => r' = r ∧ i_Rel (k + 3) u v) v v1) u v1 := by
  have I' := I
  rcases I with I | I | I
  · obtain ⟨T, W, A, c, R, h, rn, w, wr, lW, yl, yo, K, V, N, nx, ws, fo, pr, rs, fs, rc, mh, ins, row, hl, HC, HF, rfl, rfl⟩ := I
    have hc : c ≤ 64 := by have := HC.2.2.2.2.1; have := HC.2.2.2.2.2.1; omega
    unfold wpX_current wpY_current
    exact px_fi hc (py_fi hc ⟨rfl, I'⟩)
  · obtain ⟨e, T, W, A, c, R, n, f, d, rn, fsN, rcN, own, lW, K, V, N, nx, ws, fo, pr, rs, fs, rc, mh, ins, row, hl, HC, HM, hin, rfl, rfl⟩ := I
    have hc : c ≤ 64 := by have := HC.2.2.2.2.1; have := HC.2.2.2.2.2.1; omega
    unfold wpX_current wpY_current
    exact px_fi hc (py_fi hc ⟨rfl, I'⟩)
  · obtain ⟨la, T, W, A, c, R, f, p, rn, ur, lW, K, V, N, nx, ws, fo, pr, rs, fs, rc, mh, ins, row, hl, HC, HS, hin, rfl, rfl⟩ := I
    have hc : c ≤ 64 := by have := HC.2.2.2.2.1; have := HC.2.2.2.2.2.1; omega
    unfold wpX_current wpY_current
    exact px_fi hc (py_fi hc ⟨rfl, I'⟩)
/-- front, in any stage: the cells and what is inside -/
theorem ps_fro {tT wS rL sg gR lW lv oN ur cR : Int32} {K V N nx ws fo pr rs fs rc mh : Nat → Int32} {yT yW yA yg yl yo yL : Int32} {ins row hl : Nat → Int32} {JV : Nat → Int32} {h c : Nat} {w rn : Nat → Nat} {wr : Nat → Prop} (hc : c ≤ 64) (h8 : h ≤ 8) (hN : ∀ x, x < c → N x = nI (rn x) ∧ rn x < 1000) (Wk : ps_Ws c h w wr) (hw : ∀ j, j < h → ws j = nI (w j)) (hi : ∀ x, x < c → (ins x = 0 ↔ wr x)) {Q : Prop} (hQ : Q) :
    wpX_front (fun r => wpY_front (fun r' => r' = r ∧ Q) (yT, yW, yA, yg, nI c, yl, yo, yL, K, JV, N, ins, row, hl)) (tT, wS, rL, sg, nI c, gR, nI h, lW, lv, oN, ur, cR, K, V, N, nx, ws, fo, pr, rs, fs, rc, mh) := by
  have hT := ps_R_T (rn := rn) (ps_L_T K)
  by_cases h0 : h = 0
  · subst h0
    refine br_t rfl (py_fr (rn := rn) hc hN (fun s hs => ⟨?_, hQ⟩))
    refine ps_mi_u hT hs (ps_mi_0 (fun y a => ?_))
    obtain ⟨j, hj, _⟩ := Wk.2.2 y a.1 (fun z => a.2 ((hi y a.1).2 z))
    omega
  · refine br_f (nI_ne0 (by omega) (by omega)) ?_
    have C : px_Cl h w rn N ws := by
      refine ⟨h8, fun j hj => ?_, Wk.2.1⟩
      have a := Wk.1 j hj
      have n := hN _ a.1
      exact ⟨hw j hj, by omega, n.1, by omega⟩
    refine px_fc C (by omega) (fun b hb hm => And.intro (vp_in_nI (by omega) (by decide)) ?_)
    have wb := Wk.1 b hb
    refine py_fr (rn := rn) hc hN (fun s hs => ⟨?_, hQ⟩)
    rw [nI_clamp (by omega), hw b hb]
    refine ps_mi_u hT hs (ps_mi_1 (w b) ⟨wb.1, fun z => wb.2 ((hi _ wb.1).1 z)⟩ (fun y a => ?_))
    obtain ⟨j, hj, ej⟩ := Wk.2.2 y a.1 (fun z => a.2 ((hi y a.1).2 z))
    rcases hm j hj with e | e
    · left; rw [← ej, e]
    · right; rw [← ej]; exact e
theorem ps_hN {T W A c R : Nat} {rn : Nat → Nat} {N : Nat → Int32} (HC : ps_Com T W A c R rn N) : c ≤ 64 ∧ R ≤ 32 ∧ (∀ x, x < c → N x = nI (rn x) ∧ rn x < 1000) ∧ (∀ x, x < c → N x = nI (rn x) ∧ 1 ≤ rn x ∧ rn x ≤ 64) := by
  obtain ⟨_, _, _, _, a6, ca, hN, hR⟩ := HC
  have h32 := ps_R32 hR (by omega)
  refine ⟨by omega, h32, fun x hx => ⟨hN x hx, ?_⟩, fun x hx => ⟨hN x hx, ?_⟩⟩
  · have := hR.1 x hx; omega
  · have := hR.1 x hx; omega
theorem i_vc_front {k : Nat} {u : SX} {v : SY} (I : i_Rel k u v) (hk : k + 3 ≤ 1539) : wpX_front (fun r => wpY_front (fun r' => r' = r ∧ i_Rel (k + 3) u v) v) u := by
  have I' := I
  rcases I with I | I | I
  · obtain ⟨T, W, A, c, R, h, rn, w, wr, lW, yl, yo, K, V, N, nx, ws, fo, pr, rs, fs, rc, mh, ins, row, hl, HC, HF, rfl, rfl⟩ := I
    have hh := ps_hN HC
    exact ps_fro hh.1 (Nat.le_trans HF.1 HC.2.2.1) hh.2.2.1 HF.2.2.2.1 HF.2.2.2.2.1 HF.2.2.2.2.2.1 I'
  · obtain ⟨e, T, W, A, c, R, n, f, d, rn, fsN, rcN, own, lW, K, V, N, nx, ws, fo, pr, rs, fs, rc, mh, ins, row, hl, HC, HM, hin, rfl, rfl⟩ := I
    have hh := ps_hN HC
    exact ps_fro (h := 0) (w := fun _ => 0) (wr := fun _ => True) hh.1 (by omega) hh.2.2.1 ⟨fun j h => absurd h (Nat.not_lt_zero j), fun i _ h => absurd h (Nat.not_lt_zero i), fun x _ h => absurd trivial h⟩ (fun j h => absurd h (Nat.not_lt_zero j)) (fun x hx => ⟨fun _ => trivial, fun _ => hin x (by omega)⟩) I'
  · obtain ⟨la, T, W, A, c, R, f, p, rn, ur, lW, K, V, N, nx, ws, fo, pr, rs, fs, rc, mh, ins, row, hl, HC, HS, hin, rfl, rfl⟩ := I
    have hh := ps_hN HC
    exact ps_fro (h := 0) (w := fun _ => 0) (wr := fun _ => True) hh.1 (by omega) hh.2.2.1 ⟨fun j h => absurd h (Nat.not_lt_zero j), fun i _ h => absurd h (Nat.not_lt_zero i), fun x _ h => absurd trivial h⟩ (fun j h => absurd h (Nat.not_lt_zero j)) (fun x hx => ⟨fun _ => trivial, fun _ => hin x (by omega)⟩) I'
