/-! merging. -/
theorem ps_mi_m {L : Nat → Nat → Prop} {P : Nat → Prop} (h : ps_mi L P (-1)) (b : ∀ x, P x → x < 64) : ∀ y, ¬ P y := by
  rcases h with ⟨_, n⟩ | ⟨x, ex, p, _⟩
  · exact n
  · exact absurd ex.symm (ps_ne (by have := b x p; omega))
theorem ps_mi_p {L : Nat → Nat → Prop} {P : Nat → Prop} {h : Int32} (a : ps_mi L P h) (n : ¬ h = -1) : ∃ x, h = nI x ∧ P x ∧ ∀ y, P y → y = x ∨ L x y := by
  rcases a with ⟨e, _⟩ | h
  · exact absurd e n
  · exact h
theorem px_tk {tT wS rL sg rC gR hd lW lv oN ur cR : Int32} {K V N nx ws fo pr rs fs rc mh : Nat → Int32} {post : Int32 → St2 → Prop} {t f r : Nat} (ht : t < 4) (hfs : fs t = nI f) (hrc : rc t = nI r) (f32 : f < 32) (r1 : 1 ≤ r)
    (hp : post (rs (t * 32 + f)) (tT, wS, rL, sg, rC, gR, hd, lW, lv, oN, ur, cR, K, V, N, nx, ws, fo, pr, rs, upd fs t (nI ((f + 1) % 32)), upd rc t (nI (r - 1)), mh)) : wpX_takeRun post (tT, wS, rL, sg, rC, gR, hd, lW, lv, oN, ur, cR, K, V, N, nx, ws, fo, pr, rs, fs, rc, mh) (nI t) := by
  have et : (nI t).toNatClampNeg = t := nI_clamp (by omega)
  have it : vp_in (nI t) 4 := vp_in_nI ht (by decide)
  have e3 : (fs (nI t).toNatClampNeg + 1) - (fs (nI t).toNatClampNeg + 1) / 32 * 32 = nI ((f + 1) % 32) := by
    rw [et, hfs, nI_1]
    exact pk_rem (d := 32) (by omega) (by omega) (by omega)
  unfold wpX_takeRun
  refine px_fro ht hfs f32 ?_
  refine And.intro it (And.intro (by decide) (And.intro it (nm_r (e' := upd fs t (nI ((f + 1) % 32))) (by rw [e3, et]) (And.intro it (And.intro it (nm_r (e' := upd rc t (nI (r - 1))) (by rw [et, hrc, ps_p1 r1]) hp))))))
theorem px_tll {wS rL sg rC gR hd lW lv oN ur cR : Int32} {K V N nx ws fo pr rs fs rc mh : Nat → Int32} {post : Int32 → Prop} {T : Nat} {P : Nat → Nat → Prop} (T4 : T ≤ 4) (h64 : ∀ t x, t < T → P t x → x < 64) (hm : ∀ t, t < T → ps_mi (ps_L K) (P t) (mh t))
    (h0 : (∀ t, t < T → mh t = -1) → post (-1)) (h1 : ∀ b r, b < T → mh b = nI r → P b r → (∀ t x, t < T → P t x → x = r ∨ ps_L K r x) → post (nI b)) :
    ∀ m i x, i ≤ T → T - i < m → ((x = -1 ∧ ∀ t, t < i → mh t = -1) ∨ (∃ b r, x = nI b ∧ b < i ∧ mh b = nI r ∧ P b r ∧ ∀ t y, t < i → P t y → y = r ∨ ps_L K r y)) → wX_tapeOfLeastHead_4 post (nI T) wS rL sg rC gR hd lW lv oN ur cR K V N nx ws fo pr rs fs rc mh m x (nI i) := by
  have hT := ps_L_T K
  intro m
  induction m with
  | zero => intro i x _ h; omega
  | succ m ih =>
    intro i x hi hm2 I
    refine ps_if (d := T ≤ i) (nI_leI (by omega) (by omega)) (fun q => ?_) (fun q => ?_)
    · have e : i = T := by omega
      rw [e] at I
      rcases I with ⟨ex, al⟩ | ⟨b, r, ex, hb, eb, pb, mb⟩
      · rw [ex]; exact h0 al
      · rw [ex]; exact h1 b r hb eb pb mb
    · have iT : i < T := by omega
      have ei : (nI i).toNatClampNeg = i := nI_clamp (by omega)
      have ii : vp_in (nI i) 4 := vp_in_nI (by omega) (by decide)
      refine And.intro ii (ps_if (d := mh i = -1) (by rw [ei]) (fun z => ?_) (fun z => ?_))
      · have no := ps_mi_m (z ▸ hm i iT) (fun x px => h64 i x iT px)
        refine nm_r (nI_1 i) (ih (i + 1) x (by omega) (by omega) ?_)
        rcases I with ⟨ex, al⟩ | ⟨b, r, ex, hb, eb, pb, mb⟩
        · refine Or.inl ⟨ex, fun t ht => ?_⟩
          by_cases e : t = i
          · rw [e]; exact z
          · exact al t (by omega)
        · refine Or.inr ⟨b, r, ex, by omega, eb, pb, fun t y ht py => ?_⟩
          by_cases e : t = i
          · rw [e] at py; exact absurd py (no y)
          · exact mb t y (by omega) py
      · obtain ⟨s, es, ps, ms⟩ := ps_mi_p (hm i iT) z
        have s64 := h64 i s iT ps
        rcases I with ⟨ex, al⟩ | ⟨b, r, ex, hb, eb, pb, mb⟩
        · refine br_t ex (nm_r (nI_1 i) (ih (i + 1) (nI i) (by omega) (by omega) (Or.inr ⟨i, s, rfl, by omega, es, ps, fun t y ht py => ?_⟩)))
          by_cases e : t = i
          · rw [e] at py; exact ms y py
          · exact absurd py (ps_mi_m (al t (by omega) ▸ hm t (by omega)) (fun x px => h64 t x (by omega) px) y)
        · subst ex
          have r64 := h64 b r (by omega) pb
          refine br_f (ps_ne (by omega)) (And.intro ii (And.intro (vp_in_nI (by omega) (by decide)) ?_))
          have e2 : mh (nI i).toNatClampNeg = nI s := by rw [ei]; exact es
          have e3 : mh (nI b).toNatClampNeg = nI r := by rw [nI_clamp (by omega)]; exact eb
          rw [e2, e3]
          refine px_sb s64 r64 (fun l => ?_) (fun l => ?_)
          · refine br_f (by decide) (nm_r (nI_1 i) (ih (i + 1) (nI i) (by omega) (by omega) (Or.inr ⟨i, s, rfl, by omega, es, ps, fun t y ht py => ?_⟩)))
            by_cases e : t = i
            · rw [e] at py; exact ms y py
            · rcases mb t y (by omega) py with g | g
              · rw [g]; exact Or.inr l
              · exact Or.inr (hT.2.1 _ _ _ l g)
          · refine br_t rfl (nm_r (nI_1 i) (ih (i + 1) (nI b) (by omega) (by omega) (Or.inr ⟨b, r, rfl, by omega, eb, pb, fun t y ht py => ?_⟩)))
            by_cases e : t = i
            · rw [e] at py
              by_cases sr : s = r
              · rw [← sr]; exact ms y py
              · have l2 : ps_L K r s := by
                  rcases hT.2.2 s r sr with g | g
                  · exact absurd g l
                  · exact g
                rcases ms y py with g | g
                · rw [g]; exact Or.inr l2
                · exact Or.inr (hT.2.1 _ _ _ l2 g)
            · exact mb t y (by omega) py
theorem px_tl {wS rL sg rC gR hd lW lv oN ur cR : Int32} {K V N nx ws fo pr rs fs rc mh : Nat → Int32} {post : Int32 → Prop} {T : Nat} {P : Nat → Nat → Prop} (T4 : T ≤ 4) (h64 : ∀ t x, t < T → P t x → x < 64) (hm : ∀ t, t < T → ps_mi (ps_L K) (P t) (mh t))
    (h0 : (∀ t, t < T → mh t = -1) → post (-1)) (h1 : ∀ b r, b < T → mh b = nI r → P b r → (∀ t x, t < T → P t x → x = r ∨ ps_L K r x) → post (nI b)) : wpX_tapeOfLeastHead post (nI T, wS, rL, sg, rC, gR, hd, lW, lv, oN, ur, cR, K, V, N, nx, ws, fo, pr, rs, fs, rc, mh) :=
  Exists.intro (T + 1) (px_tll T4 h64 hm h0 h1 (T + 1) 0 (-1) (by omega) (by omega) (Or.inl ⟨rfl, fun t h => absurd h (Nat.not_lt_zero t)⟩))
theorem ps_rem_n {T r : Nat} {L : Nat → Nat → Prop} {U : Nat → Nat → Prop} {x : Nat} (hr : r < 2 ^ 31) : ps_rem T L U (nI r) x ↔ (ps_Un T U x ∧ L r x) := by
  constructor
  · intro h
    refine ⟨h.1, ?_⟩
    rcases h.2 with z | ⟨l, el, l31, hl⟩
    · exact absurd z (ps_ne hr)
    · have e := ps_inj hr l31 el
      rw [e]; exact hl
  · intro h; exact ⟨h.1, Or.inr ⟨r, rfl, hr, h.2⟩⟩
theorem px_mcl {wS rL sg rC gR hd lW lv oN ur cR : Int32} {K V N ws fo pr rs fs rc : Nat → Int32} {post : Int32 → St2 → Prop} {T : Nat} {U : Nat → Nat → Prop} {nx0 : Nat → Int32} (T4 : T ≤ 4) (hU : ps_Ud T U) (hn : ∀ t x, t < T → U t x → ps_mi (ps_L K) (fun y => U t y ∧ ps_L K x y) (nx0 x))
    (hp : ∀ (fi : Int32) (nx mh : Nat → Int32), ps_mi (ps_L K) (ps_Un T U) fi → (∀ x, ps_Un T U x → ps_mi (ps_L K) (fun y => ps_Un T U y ∧ ps_L K x y) (nx x)) → (∀ x, ¬ ps_Un T U x → nx x = nx0 x) → post fi (nI T, wS, rL, sg, rC, gR, hd, lW, lv, oN, ur, cR, K, V, N, nx, ws, fo, pr, rs, fs, rc, mh)) :
    ∀ (m i : Nat) (fi la : Int32) (nx mh : Nat → Int32), i ≤ 64 → 64 - i < m → i + ps_nP (ps_rem T (ps_L K) U la) 64 ≤ 64 → ps_MI T (ps_L K) U nx0 mh nx fi la → wX_mergeChains_6 post (nI T) wS rL sg rC gR hd lW lv oN ur cR m fi la (nI i) K V N nx ws fo pr rs fs rc mh := by
  have hT := ps_L_T K
  have u64 : ∀ x, ps_Un T U x → x < 64 := fun x ⟨t, ht, h⟩ => hU.1 t x ht h
  intro m
  induction m with
  | zero => intro i fi la nx mh _ h; omega
  | succ m ih =>
    intro i fi la nx mh hi hm hP I
    have fin : (∀ x, x < 64 → ¬ ps_rem T (ps_L K) U la x) → post fi (nI T, wS, rL, sg, rC, gR, hd, lW, lv, oN, ur, cR, K, V, N, nx, ws, fo, pr, rs, fs, rc, mh) := by
      intro h
      obtain ⟨a, b, c⟩ := ps_ME hT hU hn I h
      exact hp fi nx mh a b c
    refine ps_if (d := 64 ≤ i) (nI_leI (a := 64) (by omega) (by omega)) (fun q => fin (ps_nP_0 64 (by omega))) (fun q => ?_)
    have hmP : ∀ t, t < T → ps_mi (ps_L K) (fun x => U t x ∧ (la = -1 ∨ ∃ l, la = nI l ∧ l < 2 ^ 31 ∧ ps_L K l x)) (mh t) := by
      intro t ht
      rcases I with ⟨el, _, _, hm0⟩ | ⟨l, el, hl, _, hm0, _, _⟩
      · exact ps_mi_c (fun y => ⟨fun z => ⟨z, Or.inl el⟩, fun z => z.1⟩) (hm0 t ht)
      · refine ps_mi_c (fun y => ⟨fun z => ⟨z.1, Or.inr ⟨l, el, by have := u64 l hl; omega, z.2⟩⟩, fun z => ⟨z.1, ?_⟩⟩) (hm0 t ht)
        rcases z.2 with w | ⟨l', el', l31, hl'⟩
        · rw [el] at w; exact absurd w (ps_ne (by have := u64 l hl; omega))
        · have e := ps_inj (by have := u64 l hl; omega) l31 (el.symm.trans el')
          rw [e]; exact hl'
    refine px_tl T4 (fun t x ht px => hU.1 t x ht px.1) hmP (fun al => ?_) (fun b r hb eb pb mb => ?_)
    · refine br_t rfl (fin (fun x hx hr => ?_))
      obtain ⟨⟨t, ht, ux⟩, af⟩ := hr
      exact ps_mi_m (al t ht ▸ hmP t ht) (fun x px => hU.1 t x ht px.1) x ⟨ux, af⟩
    · have r64 := hU.1 b r hb pb.1
      have er : (nI r).toNatClampNeg = r := nI_clamp (by omega)
      have eb2 : (nI b).toNatClampNeg = b := nI_clamp (by omega)
      have ib : vp_in (nI b) 4 := vp_in_nI (by omega) (by decide)
      have unr : ps_Un T U r := ⟨b, hb, pb.1⟩
      have lt := ps_nP_lt (P := ps_rem T (ps_L K) U la) (Q := ps_rem T (ps_L K) U (nI r)) (r := r) (fun x hx => by
        have g := (ps_rem_n (by omega)).1 hx
        refine ⟨g.1, ?_⟩
        rcases pb.2 with w | ⟨l, el, l31, hl⟩
        · exact Or.inl w
        · exact Or.inr ⟨l, el, l31, hT.2.1 _ _ _ hl g.2⟩) ⟨unr, pb.2⟩ (fun z => hT.1 r ((ps_rem_n (by omega)).1 z).2) 64 r64
      refine br_f (ps_ne (by omega)) (And.intro ib (nm_r (e' := nI r) (by rw [eb2]; exact eb) (And.intro (vp_in_nI r64 (by decide)) (And.intro ib (nm_r (e' := upd mh b (nx r)) (by rw [eb2, er]) ?_)))))
      have I2 := I
      rcases I2 with ⟨el, ef, en, hm0⟩ | ⟨l, el, hl, hf, hm0, hd, hk⟩
      · subst el
        subst en
        refine br_t rfl (nm_r (nI_1 i) (ih (i + 1) (nI r) (nI r) nx (upd mh b (nx r)) (by omega) (by omega) (by omega) (ps_M1 hT hU hn hm0 hb pb.1 (fun x hx => ?_))))
        obtain ⟨t, ht, ux⟩ := hx
        exact mb t x ht ⟨ux, Or.inl rfl⟩
      · have l64 := u64 l hl
        subst el
        have hlr : ps_L K l r := by
          rcases pb.2 with w | ⟨l', el', l31, hl'⟩
          · exact absurd w (ps_ne (by omega))
          · have e := ps_inj (by omega) l31 el'
            rw [e]; exact hl'
        refine br_f (ps_ne (by omega)) (And.intro (vp_in_nI l64 (by decide)) (nm_r (e' := upd nx l (nI r)) (by rw [nI_clamp (by omega)]) (nm_r (nI_1 i) (ih (i + 1) fi (nI r) (upd nx l (nI r)) (upd mh b (nx r)) (by omega) (by omega) (by omega) (ps_M2 hT hU hn hl hf hm0 hd hk hb pb.1 hlr (fun x hx hx2 => ?_))))))
        obtain ⟨t, ht, ux⟩ := hx
        exact mb t x ht ⟨ux, Or.inr ⟨l, rfl, by omega, hx2⟩⟩
theorem px_mc {wS rL sg rC gR hd lW lv oN ur cR : Int32} {K V N nx ws fo pr rs fs rc mh : Nat → Int32} {post : Int32 → St2 → Prop} {T : Nat} {U : Nat → Nat → Prop} (T4 : T ≤ 4) (hU : ps_Ud T U) (hn : ∀ t x, t < T → U t x → ps_mi (ps_L K) (fun y => U t y ∧ ps_L K x y) (nx x)) (hm : ∀ t, t < T → ps_mi (ps_L K) (U t) (mh t))
    (hp : ∀ (fi : Int32) (nx' mh' : Nat → Int32), ps_mi (ps_L K) (ps_Un T U) fi → (∀ x, ps_Un T U x → ps_mi (ps_L K) (fun y => ps_Un T U y ∧ ps_L K x y) (nx' x)) → (∀ x, ¬ ps_Un T U x → nx' x = nx x) → post fi (nI T, wS, rL, sg, rC, gR, hd, lW, lv, oN, ur, cR, K, V, N, nx', ws, fo, pr, rs, fs, rc, mh')) : wpX_mergeChains post (nI T, wS, rL, sg, rC, gR, hd, lW, lv, oN, ur, cR, K, V, N, nx, ws, fo, pr, rs, fs, rc, mh) :=
  Exists.intro 65 (px_mcl T4 hU hn hp 65 0 (-1) (-1) nx mh (by omega) (by omega) (by have := ps_nP_le (ps_rem T (ps_L K) U (-1)) 64; omega) (Or.inl ⟨rfl, rfl, rfl, hm⟩))
/-! the first runs are taken from the input tapes -/
def ps_rp (T f : Nat) (rcN : Nat → Nat) (t : Nat) : Nat := if t < T ∧ t ≠ f then rcN t - 1 else rcN t
theorem px_mfl {wS rL sg rC gR hd lW lv ur cR : Int32} {K V N nx ws fo pr rs : Nat → Int32} {post : St2 → Prop} {T f : Nat} {U : Nat → Nat → Prop} {fsN rcN : Nat → Nat} (T4 : T ≤ 4) (hf : f < T) (h32 : ∀ t, t < 4 → fsN t < 32) (h1 : ∀ t, t < T → t ≠ f → 1 ≤ rcN t) (hr : ∀ t, t < 4 → rcN t ≤ 32)
    (hU : ps_Ud T U) (hn : ∀ t x, t < T → U t x → ps_mi (ps_L K) (fun y => U t y ∧ ps_L K x y) (nx x)) (hm : ∀ t, t < T → t ≠ f → ps_mi (ps_L K) (U t) (rs (t * 32 + fsN t))) (hmf : ∀ x, ¬ U f x)
    (hp : ∀ (fi : Int32) (nx' fs rc mh : Nat → Int32), (∀ t, t < 4 → fs t = nI (ps_f1 T f fsN t)) → (∀ t, t < 4 → rc t = nI (ps_r1 T f rcN t)) → ps_mi (ps_L K) (ps_Un T U) fi → (∀ x, ps_Un T U x → ps_mi (ps_L K) (fun y => ps_Un T U y ∧ ps_L K x y) (nx' x)) → (∀ x, ¬ ps_Un T U x → nx' x = nx x) →
      post (nI T, wS, rL, sg, rC, gR, hd, lW, lv, nI f, ur, cR, K, V, N, nx', ws, fo, pr, upd rs (f * 32 + (fsN f + rcN f) % 32) fi, fs, rc, mh)) :
    ∀ (m i : Nat) (fs rc mh : Nat → Int32), i ≤ T → T - i < m → (∀ t, t < 4 → fs t = nI (ps_f1 i f fsN t)) → (∀ t, t < 4 → rc t = nI (ps_rp i f rcN t)) → (∀ t, t < i → t ≠ f → mh t = rs (t * 32 + fsN t)) → (∀ t, t < i → t = f → mh t = -1) → wX_mergeFirstRuns_2 post m (nI i) (nI T) wS rL sg rC gR hd lW lv (nI f) ur cR K V N nx ws fo pr rs fs rc mh := by
  intro m
  induction m with
  | zero => intro i fs rc mh _ h; omega
  | succ m ih =>
    intro i fs rc mh hi hm2 hfs hrc hmh hmhf
    refine ps_if (d := T ≤ i) (nI_leI (by omega) (by omega)) (fun q => ?_) (fun q => ?_)
    · have e : i = T := by omega
      subst e
      refine px_mc T4 hU hn (fun t ht => ?_) (fun fi nx' mh' a b c => ?_)
      · by_cases e : t = f
        · rw [hmhf t ht e, e]; exact ps_mi_0 hmf
        · rw [hmh t ht e]; exact hm t ht e
      · have e1 : fs f = nI (fsN f) := by rw [hfs f (by omega)]; unfold ps_f1; rw [if_neg (by omega)]
        have e2 : rc f = nI (rcN f) := by rw [hrc f (by omega)]; unfold ps_rp; rw [if_neg (by omega)]
        refine px_ap (by omega) e1 e2 (h32 f (by omega)) (by have := hr f (by omega); omega) ?_
        refine hp fi nx' fs _ mh' hfs (fun t ht => ?_) a b c
        by_cases e : t = f
        · rw [e, pk_us]; unfold ps_r1; rw [if_pos rfl]
        · rw [pk_un e, hrc t ht]
          unfold ps_rp ps_r1
          by_cases g : t < i
          · rw [if_pos ⟨g, e⟩, if_neg e, if_pos g]
          · rw [if_neg (fun z => g z.1), if_neg e, if_neg g]
    · have iT : i < T := by omega
      have ei : (nI i).toNatClampNeg = i := nI_clamp (by omega)
      have ii : vp_in (nI i) 4 := vp_in_nI (by omega) (by decide)
      refine ps_if (d := i = f) (nI_eq (by omega) (by omega)) (fun z => ?_) (fun z => ?_)
      · refine And.intro ii (nm_r (e' := upd mh i (-1)) (by rw [ei]) (nm_r (nI_1 i) (ih (i + 1) fs rc (upd mh i (-1)) (by omega) (by omega) (fun t ht => ?_) (fun t ht => ?_) (fun t ht tf => ?_) (fun t ht tf => ?_))))
        · rw [hfs t ht]
          unfold ps_f1
          by_cases g : t < i ∧ t ≠ f
          · rw [if_pos g, if_pos ⟨by omega, g.2⟩]
          · rw [if_neg g, if_neg (by omega)]
        · rw [hrc t ht]
          unfold ps_rp
          by_cases g : t < i ∧ t ≠ f
          · rw [if_pos g, if_pos ⟨by omega, g.2⟩]
          · rw [if_neg g, if_neg (by omega)]
        · rw [pk_un (by omega)]; exact hmh t (by omega) tf
        · by_cases g : t = i
          · rw [g, pk_us]
          · rw [pk_un g]; exact hmhf t (by omega) tf
      · have e1 : fs i = nI (fsN i) := by rw [hfs i (by omega)]; unfold ps_f1; rw [if_neg (by omega)]
        have e2 : rc i = nI (rcN i) := by rw [hrc i (by omega)]; unfold ps_rp; rw [if_neg (by omega)]
        refine px_tk (by omega) e1 e2 (h32 i (by omega)) (h1 i iT z) ?_
        refine And.intro ii (nm_r (e' := upd mh i (rs (i * 32 + fsN i))) (by rw [ei]) (nm_r (nI_1 i) (ih (i + 1) _ _ (upd mh i (rs (i * 32 + fsN i))) (by omega) (by omega) (fun t ht => ?_) (fun t ht => ?_) (fun t ht tf => ?_) (fun t ht tf => ?_))))
        · by_cases g : t = i
          · rw [g, pk_us]; unfold ps_f1; rw [if_pos ⟨by omega, z⟩]
          · rw [pk_un g, hfs t ht]
            unfold ps_f1
            by_cases y : t < i ∧ t ≠ f
            · rw [if_pos y, if_pos ⟨by omega, y.2⟩]
            · rw [if_neg y, if_neg (by omega)]
        · by_cases g : t = i
          · rw [g, pk_us]; unfold ps_rp; rw [if_pos ⟨by omega, z⟩]
          · rw [pk_un g, hrc t ht]
            unfold ps_rp
            by_cases y : t < i ∧ t ≠ f
            · rw [if_pos y, if_pos ⟨by omega, y.2⟩]
            · rw [if_neg y, if_neg (by omega)]
        · by_cases g : t = i
          · rw [g, pk_us]
          · rw [pk_un g]; exact hmh t (by omega) tf
        · rw [pk_un (by omega)]; exact hmhf t (by omega) tf
theorem px_mf {wS rL sg rC gR hd lW lv ur cR : Int32} {K V N nx ws fo pr rs fs rc mh : Nat → Int32} {post : St2 → Prop} {T c f : Nat} {fsN rcN own : Nat → Nat} (T4 : T ≤ 4) (hc : c ≤ 64) (hf : f < T) (hfr : ∀ t, t < 4 → fs t = nI (fsN t) ∧ fsN t < 32 ∧ rc t = nI (rcN t)) (h1 : ∀ t, t < T → t ≠ f → 1 ≤ rcN t) (hr : ∀ t, t < 4 → rcN t ≤ 31)
    (O : ps_Own c (ps_L K) own (ps_live fsN rcN) nx rs)
    (hp : ∀ (own' : Nat → Nat) (nx' rs' fs' rc' mh' : Nat → Int32), (∀ t, t < 4 → fs' t = nI (ps_f1 T f fsN t)) → (∀ t, t < 4 → rc' t = nI (ps_r1 T f rcN t)) → ps_Own c (ps_L K) own' (ps_live (ps_f1 T f fsN) (ps_r1 T f rcN)) nx' rs' → post (nI T, wS, rL, sg, rC, gR, hd, lW, lv, nI f, ur, cR, K, V, N, nx', ws, fo, pr, rs', fs', rc', mh')) :
    wpX_mergeFirstRuns post (nI T, wS, rL, sg, rC, gR, hd, lW, lv, nI f, ur, cR, K, V, N, nx, ws, fo, pr, rs, fs, rc, mh) := by
  have h32 : ∀ t, t < 4 → fsN t < 32 := fun t ht => (hfr t ht).2.1
  have lv : ∀ t, t < T → t ≠ f → ps_live fsN rcN (t * 32 + fsN t) := by
    intro t ht tf
    have a := h32 t (by omega)
    have b := h1 t ht tf
    have e : (t * 32 + fsN t) / 32 = t := by omega
    refine ⟨by omega, ?_⟩
    rw [e]
    omega
  refine Exists.intro (T + 1) (px_mfl (U := fun t x => x < c ∧ t ≠ f ∧ own x = t * 32 + fsN t) T4 hf h32 h1 (fun t ht => by have := hr t ht; omega) ⟨fun t x _ h => by have := h.1; omega, fun t t' x ht ht' h h' => ?_⟩ (fun t x ht h => ?_) (fun t ht tf => ?_) (fun x h => h.2.1 rfl) (fun fi nx' fs' rc' mh' a b c2 d e => ?_) (T + 1) 0 fs rc mh (by omega) (by omega) (fun t ht => ?_) (fun t ht => ?_) (fun t h => absurd h (Nat.not_lt_zero t)) (fun t h => absurd h (Nat.not_lt_zero t)))
  · have a := h.2.2
    have b := h'.2.2
    have g1 := h32 t (by omega)
    have g2 := h32 t' (by omega)
    omega
  · refine ps_mi_c (fun y => ⟨fun z => ⟨⟨z.1, h.2.1, z.2.1.trans h.2.2⟩, z.2.2⟩, fun z => ⟨z.1.1, z.1.2.2.trans h.2.2.symm, z.2⟩⟩) (O.2.2 x h.1)
  · exact ps_mi_c (fun y => ⟨fun z => ⟨z.1, tf, z.2⟩, fun z => ⟨z.1, z.2.2⟩⟩) (O.2.1 _ (lv t ht tf))
  · obtain ⟨own', O'⟩ := ps_OwnM (Z := f * 32 + (fsN f + rcN f) % 32) (live' := ps_live (ps_f1 T f fsN) (ps_r1 T f rcN)) (Rm := fun s => ∃ t, t < T ∧ t ≠ f ∧ s = t * 32 + fsN t) (rs' := upd rs (f * 32 + (fsN f + rcN f) % 32) fi) O
      (fun x => ⟨fun ⟨t, ht, h⟩ => ⟨h.1, t, ht, h.2.1, h.2.2⟩, fun ⟨hx, t, ht, tf, ho⟩ => ⟨t, ht, hx, tf, ho⟩⟩)
      (ps_liveZ (h32 f (by omega)) (by have := hr f (by omega); omega))
      (fun s => ps_liveM T4 hf h32 (fun t ht tf => ⟨h1 t ht tf, by have := hr t (by omega); omega⟩) (by have := hr f (by omega); omega))
      (fun s hs => pk_un hs) pk_us c2 d e
    exact hp own' nx' _ fs' rc' mh' a b O'
  · rw [(hfr t ht).1]; unfold ps_f1; rw [if_neg (fun z => absurd z.1 (Nat.not_lt_zero t))]
  · rw [(hfr t ht).2.2]; unfold ps_rp; rw [if_neg (fun z => absurd z.1 (Nat.not_lt_zero t))]
