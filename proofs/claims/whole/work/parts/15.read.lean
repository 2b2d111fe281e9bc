/-! read, readFrom, rewind. -/
theorem py_78 {yT yW yA yg yc yl yo yL : Int32} {K V N ins row hl : Nat → Int32} {post : Int32 → SY → Prop} {J : Int32 → Int32 → Prop} {c i : Nat} {x : Int32} {P : Nat → Prop} (hc : c ≤ 64) (hi : i < c) (hI : ps_mi (ps_L K) (fun y => y < i ∧ P y) x) (p : P i)
    (hJ : ∀ x', ps_mi (ps_L K) (fun y => y < i + 1 ∧ P y) x' → J x' (nI (i + 1))) : wY_read_78 post J x (nI i) 1 yT yW yA yg yc yl yo yL K V N ins row hl := by
  have hT := ps_L_T K
  have ei : (nI i).toNatClampNeg = i := nI_clamp (by omega)
  have ii : vp_in (nI i) 64 := vp_in_nI (by omega) (by decide)
  refine br_f (by decide) ?_
  rcases hI with ⟨ex, no⟩ | ⟨b, eb, pb, mb⟩
  · subst ex
    exact br_t ps_n1 (nm_r (nI_1 i) (hJ _ (ps_mi_n p (fun y hy py => absurd ⟨hy, py⟩ (no y)))))
  · subst eb
    have bi := pb.1
    have e2 : (nI b).toNatClampNeg = b := nI_clamp (by omega)
    refine br_f (nI_pos (by omega)) (And.intro ii (And.intro (vp_in_nI (by omega) (by decide)) (ps_if (d := (K b).toInt ≤ (K i).toInt) (by rw [ei, e2]; exact ps_kle _ _) (fun s => ?_) (fun s => ?_))))
    · exact nm_r (nI_1 i) (hJ _ (ps_mi_k pb.2 pb.1 mb (by unfold ps_L; omega)))
    · have a : ps_L K i b := by unfold ps_L; omega
      refine nm_r (nI_1 i) (hJ _ (ps_mi_n p (fun y hy py => ?_)))
      rcases mb y ⟨hy, py⟩ with g | g
      · rw [g]; exact a
      · exact hT.2.1 _ _ _ a g
theorem py_rdl {yT yW yA yg yl yo : Int32} {K V N ins row hl : Nat → Int32} {post : Int32 → SY → Prop} {c : Nat} {la : Int32} (hc : c ≤ 64) (hla : la = -1 ∨ ∃ l, l < c ∧ la = nI l)
    (h3 : (∀ y, ¬ ps_aft K c la y) → post 3 (yT, yW, yA, yg, nI c, yl, yo, la, K, V, N, ins, row, hl)) (h0 : ∀ b, b < c → ps_mi (ps_L K) (ps_aft K c la) (nI b) → post 0 (yT, yW, yA, yg, nI c, yl, yo, nI b, K, V, N, ins, row, hl)) :
    ∀ m i x, i ≤ c → c - i < m → ps_mi (ps_L K) (fun y => y < i ∧ (la = -1 ∨ ∃ l, l < c ∧ la = nI l ∧ ps_L K l y)) x → wY_read_14 post yT yW yA yg (nI c) yl yo la K V N ins row hl m x (nI i) := by
  intro m
  induction m with
  | zero => intro i x _ h; omega
  | succ m ih =>
    intro i x hi hm hI
    refine ps_if (d := c ≤ i) (nI_leI (by omega) (by omega)) (fun q => ?_) (fun q => ?_)
    · have e : i = c := by omega
      rw [e] at hI
      rcases hI with ⟨ex, no⟩ | ⟨b, eb, pb, mb⟩
      · rw [ex]
        exact br_f (by decide) (h3 no)
      · rw [eb]
        exact br_t (nI_pos' (by have := pb.1; omega)) (h0 b pb.1 (Or.inr ⟨b, rfl, pb, mb⟩))
    · have ic : i < c := by omega
      have ei : (nI i).toNatClampNeg = i := nI_clamp (by omega)
      have ii : vp_in (nI i) 64 := vp_in_nI (by omega) (by decide)
      have yes : (la = -1 ∨ ∃ l, l < c ∧ la = nI l ∧ ps_L K l i) → wY_read_73 post (wY_read_14 post yT yW yA yg (nI c) yl yo la K V N ins row hl m) x (nI i) yT yW yA yg (nI c) yl yo la K V N ins row hl := by
        intro p
        unfold wY_read_73
        exact py_78 hc ic hI p (fun x' h' => ih (i + 1) x' (by omega) (by omega) h')
      have no : ¬ (la = -1 ∨ ∃ l, l < c ∧ la = nI l ∧ ps_L K l i) → wY_read_77 post (wY_read_14 post yT yW yA yg (nI c) yl yo la K V N ins row hl m) x (nI i) yT yW yA yg (nI c) yl yo la K V N ins row hl := by
        intro p
        unfold wY_read_77
        exact br_t rfl (nm_r (nI_1 i) (ih (i + 1) x (by omega) (by omega) (ps_mi_s hI p)))
      rcases hla with el | ⟨l, lc, el⟩
      · have g : la < 0 := by rw [el]; decide
        exact br_t g (yes (Or.inl el))
      · subst el
        have e2 : (nI l).toNatClampNeg = l := nI_clamp (by omega)
        have il : vp_in (nI l) 64 := vp_in_nI (by omega) (by decide)
        have only : ¬ ps_L K l i → ¬ (nI l = -1 ∨ ∃ l', l' < c ∧ nI l = nI l' ∧ ps_L K l' i) := by
          intro n z
          rcases z with z | ⟨l', l'c, e', h'⟩
          · exact ps_ne (by omega) z
          · have e := ps_inj (by omega) (by omega) e'
            rw [← e] at h'
            exact n h'
        refine br_f (nI_pos (by omega)) (And.intro ii (And.intro il (ps_if (d := (K l).toInt < (K i).toInt) (by rw [ei, e2]; exact ps_klt _ _) (fun s => yes (Or.inr ⟨l, lc, rfl, Or.inl s⟩)) (fun s => ?_))))
        refine And.intro ii (And.intro il (ps_if (d := (K i).toInt = (K l).toInt) (by rw [ei, e2]; exact ps_keq _ _) (fun t => ?_) (fun t => no (only (by unfold ps_L; omega)))))
        exact ps_if (d := i ≤ l) (nI_leI (by omega) (by omega)) (fun w => no (only (by unfold ps_L; omega))) (fun w => yes (Or.inr ⟨l, lc, rfl, Or.inr ⟨by omega, by omega⟩⟩))
theorem ps_step2 {u : SX} {v : SY} (I : ps_RS u v) : ∃ (r : Int32) (u' : SX) (v' : SY), (∀ post : Int32 → SX → Prop, post r u' → wpX_read post u) ∧ (∀ post : Int32 → SY → Prop, post r v' → wpY_read post v) ∧
    ((r = 0 ∧ ∃ l, l < 64 ∧ ps_RSl (nI l) u' v') ∨ (r = 3 ∧ ps_RS u' v')) := by
  have I' := I
  obtain ⟨la, T, W, A, c, R, f, p, rn, ur, lW, K, V, N, nx, ws, fo, pr, rs, fs, rc, mh, ins, row, hl, HC, HS, hin, rfl, rfl⟩ := I
  have hh := ps_hN HC
  obtain ⟨hf, hp, hfs, hrc, hrs, hnx, hla, hur⟩ := HS
  have hT := ps_L_T K
  have st : ps_mi (ps_L K) (fun y => y < 0 ∧ (la = -1 ∨ ∃ l, l < c ∧ la = nI l ∧ ps_L K l y)) (-1) := ps_mi_0 (fun y a => absurd a.1 (Nat.not_lt_zero y))
  rcases hur with ⟨eu, no⟩ | ⟨b, eb, pb, mb⟩
  · subst eu
    refine ⟨3, _, _, fun post hpo => br_t rfl (br_t rfl hpo), fun post hpo => br_t rfl (Exists.intro (c + 1) (py_rdl hh.1 hla (fun _ => hpo) (fun b bc hb => ?_) (c + 1) 0 (-1) (by omega) (by omega) st)), Or.inr ⟨rfl, I'⟩⟩
    exact absurd (ps_mi_u hT hb (Or.inl ⟨rfl, no⟩)) (ps_ne (by omega))
  · subst eb
    have bc := pb.1
    have e2 : (nI b).toNatClampNeg = b := nI_clamp (by omega)
    refine ⟨0, (nI T, nI W, nI A, 2, nI c, nI R, nI 0, lW, 0, nI f, nx b, nI b, K, V, N, nx, ws, fo, pr, rs, fs, rc, mh), (nI T, nI W, nI A, 2, nI c, 0, nI f, nI b, K, V, N, ins, row, hl), fun post hpo => ?_, fun post hpo => ?_, Or.inl ⟨rfl, b, by omega, ?_⟩⟩
    · exact br_t rfl (br_f (ps_ne (by omega)) (And.intro (vp_in_nI (by omega) (by decide)) (nm_r (e' := nx b) (by rw [e2]) hpo)))
    · refine br_t rfl (Exists.intro (c + 1) (py_rdl hh.1 hla (fun z => absurd pb (z b)) (fun b' bc' hb => ?_) (c + 1) 0 (-1) (by omega) (by omega) st))
      have e : nI b' = nI b := ps_mi_u hT hb (Or.inr ⟨b, rfl, pb, mb⟩)
      rw [e]; exact hpo
    · refine ⟨T, W, A, c, R, f, p, rn, nx b, lW, K, V, N, nx, ws, fo, pr, rs, fs, rc, mh, ins, row, hl, HC, ⟨hf, hp, hfs, hrc, hrs, hnx, Or.inr ⟨b, bc, rfl⟩, ?_⟩, hin, rfl, rfl⟩
      refine ps_mi_c (fun y => ⟨fun z => ⟨z.1, Or.inr ⟨b, bc, rfl, z.2⟩⟩, fun z => ⟨z.1, ?_⟩⟩) (hnx b bc)
      rcases z.2 with w | ⟨l, lc, el, hl'⟩
      · exact absurd w (ps_ne (by omega))
      · have e := ps_inj (by omega) (by omega) el
        rw [e]; exact hl'
theorem i_vc_read {k : Nat} {u : SX} {v : SY} (I : i_Rel k u v) (hk : k + 3 ≤ 1539) : wpX_read (fun r u' => wpY_read (fun r' v' => r' = r ∧ i_Rel (k + 3) u' v') v) u := by
  have I' := I
  rcases I with I | I | I
  · obtain ⟨T, W, A, c, R, h, rn, w, wr, lW, yl, yo, K, V, N, nx, ws, fo, pr, rs, fs, rc, mh, ins, row, hl, HC, HF, rfl, rfl⟩ := I
    exact br_f (by decide) (br_f (by decide) ⟨rfl, I'⟩)
  · obtain ⟨e, T, W, A, c, R, n, f, d, rn, fsN, rcN, own, lW, K, V, N, nx, ws, fo, pr, rs, fs, rc, mh, ins, row, hl, HC, HM, hin, rfl, rfl⟩ := I
    exact br_f (by decide) (br_f (by decide) ⟨rfl, I'⟩)
  · obtain ⟨r, u', v', hX, hY, h⟩ := ps_step2 I
    refine hX _ (hY _ ⟨rfl, Or.inr (Or.inr ?_)⟩)
    rcases h with ⟨_, l, _, h⟩ | ⟨_, h⟩
    · exact ⟨_, h⟩
    · exact h
theorem i_vc_rewind {k : Nat} {u : SX} {v : SY} (I : i_Rel k u v) (hk : k + 3 ≤ 1539) : wpX_rewind (fun r u' => wpY_rewind (fun r' v' => r' = r ∧ i_Rel (k + 3) u' v') v) u := by
  have I' := I
  rcases I with I | I | I
  · obtain ⟨T, W, A, c, R, h, rn, w, wr, lW, yl, yo, K, V, N, nx, ws, fo, pr, rs, fs, rc, mh, ins, row, hl, HC, HF, rfl, rfl⟩ := I
    exact br_f (by decide) (br_f (by decide) ⟨rfl, I'⟩)
  · obtain ⟨e, T, W, A, c, R, n, f, d, rn, fsN, rcN, own, lW, K, V, N, nx, ws, fo, pr, rs, fs, rc, mh, ins, row, hl, HC, HM, hin, rfl, rfl⟩ := I
    exact br_f (by decide) (br_f (by decide) ⟨rfl, I'⟩)
  · obtain ⟨la, T, W, A, c, R, f, p, rn, ur, lW, K, V, N, nx, ws, fo, pr, rs, fs, rc, mh, ins, row, hl, HC, HS, hin, rfl, rfl⟩ := I
    have t4 := ps_T4 HC.1
    obtain ⟨hf, hp, hfs, hrc, hrs, hnx, hla, hur⟩ := HS
    refine br_t rfl ?_
    unfold wpX_goToStart
    refine px_fro (by omega) hfs hp (br_t rfl ⟨rfl, Or.inr (Or.inr ?_)⟩)
    refine ⟨-1, T, W, A, c, R, f, p, rn, rs (f * 32 + p), lW, K, V, N, nx, ws, fo, pr, rs, fs, rc, mh, ins, row, hl, HC, ⟨hf, hp, hfs, hrc, hrs, hnx, Or.inl rfl, ?_⟩, hin, rfl, rfl⟩
    exact ps_mi_c (fun y => ⟨fun z => ⟨z, Or.inl rfl⟩, fun z => z.1⟩) hrs
/-! readFrom: at most 65 reads on either side, in step -/
def px_RF (post : Int32 → SX → Prop) (x1 : Int32) (n : Nat) (r x : Int32) (u : SX) : Prop := match u with
  | (tT, wS, rL, sg, rC, gR, hd, lW, lv, oN, ur, cR, K, V, N, nx, ws, fo, pr, rs, fs, rc, mh) => wX_readFrom_7 post x1 n r x tT wS rL sg rC gR hd lW lv oN ur cR K V N nx ws fo pr rs fs rc mh
def py_RF (post : Int32 → SY → Prop) (x1 : Int32) (n : Nat) (r x : Int32) (v : SY) : Prop := match v with
  | (yT, yW, yA, yg, yc, yl, yo, yL, K, V, N, ins, row, hl) => wY_readFrom_4 post x1 n r x yT yW yA yg yc yl yo yL K V N ins row hl
/-- what the reference asks behind its read number i + 1 -/
def py_RB (post : Int32 → SY → Prop) (x1 : Int32) (n : Nat) (r x : Int32) (v : SY) : Prop := match v with
  | (yT, yW, yA, yg, yc, yl, yo, yL, K, V, N, ins, row, hl) => ((r = 0 → ((yL < 0 → (∀ x' : Int32, x' = x + 1 → wY_readFrom_4 post x1 n r x' yT yW yA yg yc yl yo yL K V N ins row hl)) ∧ (¬ yL < 0 → (vp_in yL 64 ∧ ((K yL.toNatClampNeg < x1 → (∀ x' : Int32, x' = x + 1 → wY_readFrom_4 post x1 n r x' yT yW yA yg yc yl yo yL K V N ins row hl)) ∧ (¬ K yL.toNatClampNeg < x1 → post r (yT, yW, yA, yg, yc, yl, yo, yL, K, V, N, ins, row, hl))))))) ∧ (¬ r = 0 → post r (yT, yW, yA, yg, yc, yl, yo, yL, K, V, N, ins, row, hl)))
theorem ps_rfl {k : Nat} (v0 : SY) (x1 : Int32) : ∀ (m i : Nat) (r : Int32) (u : SX) (v : SY), 64 - i < m → i ≤ 64 → ((r = 0 ∧ ∃ l, l < 64 ∧ ps_RSl (nI l) u v) ∨ (¬ r = 0 ∧ i_Rel (k + 3) u v)) →
    (∀ post : Int32 → SY → Prop, py_RB post x1 (65 - i) r (nI i) v → wpY_readFrom post v0 x1) → px_RF (fun r u' => wpY_readFrom (fun r' v' => r' = r ∧ i_Rel (k + 3) u' v') v0 x1) x1 m r (nI i) u := by
  intro m
  induction m with
  | zero => intro i r u v h; omega
  | succ m ih =>
    intro i r u v hm hi Q H
    rcases Q with ⟨r0, l, l64, J⟩ | ⟨r0, rel⟩
    · have rel : i_Rel (k + 3) u v := Or.inr (Or.inr ⟨_, J⟩)
      have ef : 65 - i = (64 - i) + 1 := by omega
      have ef2 : 65 - (i + 1) = 64 - i := by omega
      have o1 : ¬ 64 ≤ i → 64 - (i + 1) < m := fun z => by omega
      have o2 : ¬ 64 ≤ i → i + 1 ≤ 64 := fun z => by omega
      have o3 : ¬ 64 ≤ i → i + 1 < 65 := fun z => by omega
      have S := ps_step2 ⟨_, J⟩
      obtain ⟨T, W, A, c, R, f, p, rn, ur, lW, K, V, N, nx, ws, fo, pr, rs, fs, rc, mh, ins, row, hl, HC, HS, hin, rfl, rfl⟩ := J
      have e2 : (nI l).toNatClampNeg = l := nI_clamp (by omega)
      have il : vp_in (nI l) 64 := vp_in_nI l64 (by decide)
      have npos : ¬ nI l < 0 := nI_pos (by omega)
      by_cases i64 : 64 ≤ i
      · refine br_t (nI_le (a := 64) i64 (by omega)) (H _ ?_)
        have ei : i = 64 := by omega
        subst ei
        refine br_t r0 (br_f npos (And.intro il (br_c (fun _ => nm_r (nI_1 64) (br_t (nI_le (a := 65) (b := 65) (by omega) (by omega)) ⟨rfl, rel⟩)) (fun _ => ⟨rfl, rel⟩))))
      · refine br_f (nI_ge (b := 64) (by omega) (by decide)) (br_t r0 (And.intro il ?_))
        have kk : x1 ≤ K (nI l).toNatClampNeg ↔ ¬ K (nI l).toNatClampNeg < x1 := Int32.not_lt.symm
        refine ps_if kk (fun z => ?_) (fun z => ?_)
        · exact H _ (br_t r0 (br_f npos (And.intro il (br_f z ⟨rfl, rel⟩))))
        · have lt : K (nI l).toNatClampNeg < x1 := Classical.not_not.mp z
          obtain ⟨r', u', v', hX, hY, h⟩ := S
          refine hX _ ?_
          have R := ih (i + 1) r' u' v' (o1 i64) (o2 i64) (by
            rcases h with ⟨a, h⟩ | ⟨a, h⟩
            · exact Or.inl ⟨a, h⟩
            · exact Or.inr ⟨by rw [a]; decide, Or.inr (Or.inr h)⟩) (fun post hp => by
              refine H post (br_t r0 (br_f npos (And.intro il (br_t lt (nm_r (nI_1 i) ?_)))))
              rw [ef]
              refine br_f (nI_ge (b := 65) (o3 i64) (by decide)) (hY _ ?_)
              rw [ef2] at hp
              obtain ⟨yT', yW', yA', yg', yc', yl', yo', yL', JK', JV', JN', ins', row', hl'⟩ := v'
              exact hp)
          obtain ⟨tT', wS', rL', sg', rC', gR', hd', lW', lv', oN', ur', cR', K', V', N', nx', ws', fo', pr', rs', fs', rc', mh'⟩ := u'
          exact nm_r (nI_1 i) R
    · obtain ⟨tT, wS, rL, sg, rC, gR, hd, lW, lv, oN, ur, cR, K, V, N, nx, ws, fo, pr, rs, fs, rc, mh⟩ := u
      obtain ⟨yT, yW, yA, yg, yc, yl, yo, yL, JK, JV, JN, ins, row, hl⟩ := v
      have P : wpY_readFrom (fun r' v' => r' = r ∧ i_Rel (k + 3) (tT, wS, rL, sg, rC, gR, hd, lW, lv, oN, ur, cR, K, V, N, nx, ws, fo, pr, rs, fs, rc, mh) v') v0 x1 := H _ (br_f r0 ⟨rfl, rel⟩)
      exact br_c (fun _ => P) (fun _ => br_f r0 P)
theorem i_vc_readFrom {k : Nat} {u : SX} {v : SY} (I : i_Rel k u v) (hk : k + 3 ≤ 1539) (v1 : Int32) : wpX_readFrom (fun r u' => wpY_readFrom (fun r' v' => r' = r ∧ i_Rel (k + 3) u' v') v v1) u v1 := by
  have I' := I
  rcases I with I | I | I
  · obtain ⟨T, W, A, c, R, h, rn, w, wr, lW, yl, yo, K, V, N, nx, ws, fo, pr, rs, fs, rc, mh, ins, row, hl, HC, HF, rfl, rfl⟩ := I
    unfold wpX_readFrom
    exact br_f (by decide) (Exists.intro 1 (br_f (by decide) (br_f (by decide) (Exists.intro 1 (br_f (by decide) (br_f (by decide) (br_f (by decide) ⟨rfl, I'⟩)))))))
  · obtain ⟨e, T, W, A, c, R, n, f, d, rn, fsN, rcN, own, lW, K, V, N, nx, ws, fo, pr, rs, fs, rc, mh, ins, row, hl, HC, HM, hin, rfl, rfl⟩ := I
    unfold wpX_readFrom
    exact br_f (by decide) (Exists.intro 1 (br_f (by decide) (br_f (by decide) (Exists.intro 1 (br_f (by decide) (br_f (by decide) (br_f (by decide) ⟨rfl, I'⟩)))))))
  · have S := ps_step2 I
    obtain ⟨r, u', v', hX, hY, h⟩ := S
    have H : ∀ post : Int32 → SY → Prop, py_RB post v1 (65 - 0) r (nI 0) v' → wpY_readFrom post v v1 := by
      intro post hp
      obtain ⟨la, T, W, A, c, R, f, p, rn, ur, lW, K, V, N, nx, ws, fo, pr, rs, fs, rc, mh, ins, row, hl, HC, HS, hin, rfl, rfl⟩ := I
      refine Exists.intro 66 (br_f (by decide) (hY _ ?_))
      obtain ⟨yT', yW', yA', yg', yc', yl', yo', yL', JK', JV', JN', ins', row', hl'⟩ := v'
      exact hp
    have G : px_RF (fun r u' => wpY_readFrom (fun r' v' => r' = r ∧ i_Rel (k + 3) u' v') v v1) v1 65 r (nI 0) u' := by
      refine ps_rfl v v1 65 0 r u' v' (by omega) (by omega) ?_ H
      rcases h with ⟨a, h⟩ | ⟨a, h⟩
      · exact Or.inl ⟨a, h⟩
      · exact Or.inr ⟨by rw [a]; decide, Or.inr (Or.inr h)⟩
    obtain ⟨la, T, W, A, c, R, f, p, rn, ur, lW, K, V, N, nx, ws, fo, pr, rs, fs, rc, mh, ins, row, hl, HC, HS, hin, rfl, rfl⟩ := I
    unfold wpX_readFrom
    refine hX _ ?_
    obtain ⟨tT', wS', rL', sg', rC', gR', hd', lW', lv', oN', ur', cR', K', V', N', nx', ws', fo', pr', rs', fs', rc', mh'⟩ := u'
    exact Exists.intro 65 G
