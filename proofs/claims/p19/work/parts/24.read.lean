/-! the law's reading loop -/
theorem qs_none {P : Nat → Prop} (h : ∀ y, ¬ P y) (n : Nat) : ps_nP P n = 0 := by
  have := qs_all (P := P) (c := 0) (fun x => ⟨fun z => absurd z (h x), fun z => absurd z (Nat.not_lt_zero x)⟩) n
  omega
/-- the record read last, if there is one -/
def qs_hl (i c : Nat) (la lk lo : Int32) (ky : Nat → Int32) : Prop := i = 0 ∨ ∃ l, la = nI l ∧ l < c ∧ lk = ky l ∧ lo = nI l
theorem qs_701 {post : Int32 → Prop} {L : Nat} {xs : Nat → Int32} {J46 J576 : Int32 → Int32 → Int32 → Int32 → Int32 → Int32 → Int32 → Int32 → Int32 → Int32 → Int32 → Int32 → Int32 → (Nat → Int32) → (Nat → Int32) → (Nat → Int32) → (Nat → Int32) → (Nat → Int32) → (Nat → Int32) → (Nat → Int32) → (Nat → Int32) → (Nat → Int32) → (Nat → Int32) → (Nat → Int32) → Prop} {x1 x3 x7 x11 md : Int32} {kc ks T W A c f B q : Nat} (hL : L ≤ 260) (hB : B ≤ 1000) (hc : c ≤ 64)
    (hJ : ∀ (la : Int32) (tT' wS' rL' sg' rC' gR' hd' lW' lv' oN' ur' cR' : Int32) (K' V' N' nx' ws' fo' pr' rs' fs' rc' mh' : Nat → Int32), qs_S T W A c f (qs_ky L xs B md) (qs_vl L xs B) la (tT', wS', rL', sg', rC', gR', hd', lW', lv', oN', ur', cR', K', V', N', nx', ws', fo', pr', rs', fs', rc', mh') → J576 (nI (q + 1)) tT' wS' rL' sg' rC' gR' hd' lW' lv' oN' ur' cR' K' V' N' nx' ws' fo' pr' rs' fs' rc' mh') :
    ∀ (m i : Nat) (seen : Int64) (lk lo la : Int32) (tT wS rL sg rC gR hd lW lv oN ur cR : Int32) (K V N nx ws fo pr rs fs rc mh : Nat → Int32), i ≤ c → c - i < m → qs_S T W A c f (qs_ky L xs B md) (qs_vl L xs B) la (tT, wS, rL, sg, rC, gR, hd, lW, lv, oN, ur, cR, K, V, N, nx, ws, fo, pr, rs, fs, rc, mh) → ps_nP (ps_aft (qs_ky L xs B md) c la) 64 + i = c →
      (∀ x, x < c → (seen.toBitVec.getLsbD x = true ↔ ¬ ps_aft (qs_ky L xs B md) c la x)) → qs_hl i c la lk lo (qs_ky L xs B md) →
      wL_law_701 post L xs J46 J576 x1 x3 (nI B) md x7 x11 (nI q) (nI c) kc ks m seen lk lo (nI i) tT wS rL sg rC gR hd lW lv oN ur cR K V N nx ws fo pr rs fs rc mh := by
  intro m
  induction m with
  | zero => intro i seen lk lo la tT wS rL sg rC gR hd lW lv oN ur cR K V N nx ws fo pr rs fs rc mh _ h; omega
  | succ m ih =>
    intro i seen lk lo la tT wS rL sg rC gR hd lW lv oN ur cR K V N nx ws fo pr rs fs rc mh hi hm I hn hb hl
    refine ps_if (d := c ≤ i) (nI_leI (by omega) (by omega)) (fun z => ?_) (fun z => ?_)
    · refine qs_read I (fun _ => br_t rfl (nm_r (nI_1 q) (hJ la tT wS rL sg rC gR hd lW lv oN ur cR K V N nx ws fo pr rs fs rc mh I))) (fun b u' bc hmi I' => ?_)
      have a := qs_aft hc hmi bc
      have := qs_pos (n := 64) (by omega) a.1
      omega
    · have ic : i < c := by omega
      refine qs_read I (fun no => ?_) (fun b u' bc hmi I' => ?_)
      · have := qs_none no 64
        omega
      have a := qs_aft hc hmi bc
      obtain ⟨g, G⟩ := qs_fld I' bc
      obtain ⟨tT', wS', rL', sg', rC', gR', hd', lW', lv', oN', ur', cR', K', V', N', nx', ws', fo', pr', rs', fs', rc', mh'⟩ := u'
      have nb : seen.toBitVec.getLsbD b = false := by
        have := hb b bc
        exact ts_nt (fun z => (this.1 z) a.1)
      have ix := qs_ix B b
      have rm := qs_rm (P := ps_aft (qs_ky L xs B md) c la) (Q := ps_aft (qs_ky L xs B md) c (nI b)) (r := b) a.2 a.1 64 (by omega)
      have nxt : wL_law_701 post L xs J46 J576 x1 x3 (nI B) md x7 x11 (nI q) (nI c) kc ks m (seen ||| ((1 : Int64) <<< ((nI b).toInt64 &&& 63))) (qs_ky L xs B md b) (nI b) (nI (i + 1)) tT' wS' rL' sg' rC' gR' hd' lW' lv' oN' ur' cR' K' V' N' nx' ws' fo' pr' rs' fs' rc' mh' := by
        refine ih (i + 1) _ _ _ (nI b) tT' wS' rL' sg' rC' gR' hd' lW' lv' oN' ur' cR' K' V' N' nx' ws' fo' pr' rs' fs' rc' mh' (by omega) (by omega) I' (by omega) (fun x hx => ?_) (Or.inr ⟨b, rfl, bc, rfl, rfl⟩)
        have s := qs_set (w := seen) (b := b) (x := x) (by omega) (by omega)
        have hx2 := hb x hx
        have ax := a.2 x
        constructor
        · intro y w
          rcases s.1 y with v | v
          · exact hx2.1 v (ax.1 w).1
          · exact (ax.1 w).2 v
        · intro y
          refine s.2 ?_
          by_cases e : x = b
          · exact Or.inr e
          · exact Or.inl (hx2.2 (fun w => y (ax.2 ⟨w, e⟩)))
      refine br_t rfl ((G _).2.2.2 (br_f (nI_pos (by omega)) (br_f (nI_ge bc (by omega)) (br_t ((qs_bit (by omega)).2 nb) (nm_e ?_)))))
      refine qs_c hL (by omega) ix ?_
      refine ((G _).1 ?_).2
      refine ((G _).2.1 ?_).2
      refine qs_k (br_t rfl (qs_v (br_t rfl ?_)))
      refine ((G _).1 ?_).1
      refine br_t rfl ?_
      refine ((G _).2.1 ?_).1
      refine br_t rfl ?_
      refine ((G _).2.2.1 ?_).1
      refine ((G _).2.2.1 ?_).2
      refine br_t rfl ?_
      refine ps_if (d := i ≤ 0) (nI_leI (b := 0) (by omega) (by omega)) (fun _ => nm_r (nI_1 i) nxt) (fun i0 => ?_)
      rcases hl with hl | ⟨l, ela, lc, elk, elo⟩
      · omega
      · subst ela
        subst elk
        subst elo
        have lb : ps_L (qs_ky L xs B md) l b := by
          rcases a.1.2 with w | ⟨l', l'c, el, w⟩
          · exact absurd w (ps_ne (by omega))
          · have e := ps_inj (by omega) (by omega) el
            rw [e]; exact w
        unfold ps_L at lb
        refine ps_if (d := (qs_ky L xs B md b).toInt < (qs_ky L xs B md l).toInt) (ps_klt _ _) (fun w => by omega) (fun w => ?_)
        refine ps_if (d := (qs_ky L xs B md b).toInt = (qs_ky L xs B md l).toInt) (ps_keq _ _) (fun w2 => ?_) (fun w2 => nm_r (nI_1 i) nxt)
        exact ps_if (d := l < b) (nI_ltI (by omega) (by omega)) (fun _ => nm_r (nI_1 i) nxt) (fun w3 => by omega)
/-! the reads ahead of a pass -/
theorem qs_618 {post : Int32 → Prop} {L : Nat} {xs : Nat → Int32} {J46 J576 : Int32 → Int32 → Int32 → Int32 → Int32 → Int32 → Int32 → Int32 → Int32 → Int32 → Int32 → Int32 → Int32 → (Nat → Int32) → (Nat → Int32) → (Nat → Int32) → (Nat → Int32) → (Nat → Int32) → (Nat → Int32) → (Nat → Int32) → (Nat → Int32) → (Nat → Int32) → (Nat → Int32) → (Nat → Int32) → Prop} {x1 x3 x7 md : Int32} {kc ks T W A c f B q p : Nat} (hL : L ≤ 260) (hB : B ≤ 1000) (hc : c ≤ 64) (hp : p ≤ 100)
    (hJ : ∀ (la : Int32) (tT' wS' rL' sg' rC' gR' hd' lW' lv' oN' ur' cR' : Int32) (K' V' N' nx' ws' fo' pr' rs' fs' rc' mh' : Nat → Int32), qs_S T W A c f (qs_ky L xs B md) (qs_vl L xs B) la (tT', wS', rL', sg', rC', gR', hd', lW', lv', oN', ur', cR', K', V', N', nx', ws', fo', pr', rs', fs', rc', mh') → J576 (nI (q + 1)) tT' wS' rL' sg' rC' gR' hd' lW' lv' oN' ur' cR' K' V' N' nx' ws' fo' pr' rs' fs' rc' mh') :
    ∀ (m i : Nat) (la : Int32) (tT wS rL sg rC gR hd lW lv oN ur cR : Int32) (K V N nx ws fo pr rs fs rc mh : Nat → Int32), i ≤ p → p - i < m → qs_S T W A c f (qs_ky L xs B md) (qs_vl L xs B) la (tT, wS, rL, sg, rC, gR, hd, lW, lv, oN, ur, cR, K, V, N, nx, ws, fo, pr, rs, fs, rc, mh) →
      wL_law_618 post L xs J46 J576 x1 x3 (nI B) md x7 (nI c) (nI q) (nI p) kc ks m (nI i) tT wS rL sg rC gR hd lW lv oN ur cR K V N nx ws fo pr rs fs rc mh := by
  intro m
  induction m with
  | zero => intro i la tT wS rL sg rC gR hd lW lv oN ur cR K V N nx ws fo pr rs fs rc mh _ h; omega
  | succ m ih =>
    intro i la tT wS rL sg rC gR hd lW lv oN ur cR K V N nx ws fo pr rs fs rc mh hi hm I
    refine ps_if (d := p ≤ i) (nI_leI (by omega) (by omega)) (fun z => ?_) (fun z => ?_)
    · refine qs_rew I (fun u' I' => ?_)
      have C := fun (P : Int32 → Prop) (h : P (nI c)) => qs_cntS (post := P) I' h
      obtain ⟨tT', wS', rL', sg', rC', gR', hd', lW', lv', oN', ur', cR', K', V', N', nx', ws', fo', pr', rs', fs', rc', mh'⟩ := u'
      refine C _ (br_t rfl (Exists.intro (c + 1) (qs_701 hL hB hc hJ (c + 1) 0 0 0 (-1) (-1) tT' wS' rL' sg' rC' gR' hd' lW' lv' oN' ur' cR' K' V' N' nx' ws' fo' pr' rs' fs' rc' mh' (by omega) (by omega) I' ?_ (fun x hx => ?_) (Or.inl rfl))))
      · have := qs_all (P := ps_aft (qs_ky L xs B md) c (-1)) (c := c) (fun x => ⟨fun z => z.1, fun z => ⟨z, Or.inl rfl⟩⟩) 64
        omega
      · constructor
        · intro y
          have z0 : (0 : Int64).toBitVec.getLsbD x = false := BitVec.getLsbD_zero
          rw [z0] at y
          exact absurd y (by decide)
        · intro y; exact absurd ⟨hx, Or.inl rfl⟩ y
    · refine br_c (fun _ => ?_) (fun _ => ?_)
      · refine qs_read I (fun _ => ?_) (fun b u' bc hmi I' => ?_)
        · exact nm_r (nI_1 i) (ih (i + 1) la tT wS rL sg rC gR hd lW lv oN ur cR K V N nx ws fo pr rs fs rc mh (by omega) (by omega) I)
        · obtain ⟨tT', wS', rL', sg', rC', gR', hd', lW', lv', oN', ur', cR', K', V', N', nx', ws', fo', pr', rs', fs', rc', mh'⟩ := u'
          exact nm_r (nI_1 i) (ih (i + 1) (nI b) tT' wS' rL' sg' rC' gR' hd' lW' lv' oN' ur' cR' K' V' N' nx' ws' fo' pr' rs' fs' rc' mh' (by omega) (by omega) I')
      · refine qs_c hL (by omega) (qs_ix B i) (qs_k (qs_rf I (fun r la' u' I' => ?_)))
        obtain ⟨tT', wS', rL', sg', rC', gR', hd', lW', lv', oN', ur', cR', K', V', N', nx', ws', fo', pr', rs', fs', rc', mh'⟩ := u'
        exact nm_r (nI_1 i) (ih (i + 1) la' tT' wS' rL' sg' rC' gR' hd' lW' lv' oN' ur' cR' K' V' N' nx' ws' fo' pr' rs' fs' rc' mh' (by omega) (by omega) I')
/-- any state that a round may end in -/
def qs_Q (T W A c : Nat) (ky vl : Nat → Int32) (u : St2) : Prop := qs_F T W A c ky vl u ∨ (∃ n f e, qs_M T W A c n f e ky vl u) ∨ (∃ f la, qs_S T W A c f ky vl la u)
theorem qs_915 {post : Int32 → Prop} {L : Nat} {xs : Nat → Int32} {J46 : Int32 → Int32 → Int32 → Int32 → Int32 → Int32 → Int32 → Int32 → Int32 → Int32 → Int32 → Int32 → Int32 → (Nat → Int32) → (Nat → Int32) → (Nat → Int32) → (Nat → Int32) → (Nat → Int32) → (Nat → Int32) → (Nat → Int32) → (Nat → Int32) → (Nat → Int32) → (Nat → Int32) → (Nat → Int32) → Prop} {x1 : Int32} {kc ks T W A c r : Nat} {ky vl : Nat → Int32} {tT wS rL sg rC gR hd lW lv oN ur cR : Int32} {K V N nx ws fo pr rs fs rc mh : Nat → Int32}
    (hJ : ∀ (tT' wS' rL' sg' rC' gR' hd' lW' lv' oN' ur' cR' : Int32) (K' V' N' nx' ws' fo' pr' rs' fs' rc' mh' : Nat → Int32), (∀ ky' vl', qs_F T W A 0 ky' vl' (tT', wS', rL', sg', rC', gR', hd', lW', lv', oN', ur', cR', K', V', N', nx', ws', fo', pr', rs', fs', rc', mh')) → J46 (nI (r + 1)) tT' wS' rL' sg' rC' gR' hd' lW' lv' oN' ur' cR' K' V' N' nx' ws' fo' pr' rs' fs' rc' mh') (I : qs_Q T W A c ky vl (tT, wS, rL, sg, rC, gR, hd, lW, lv, oN, ur, cR, K, V, N, nx, ws, fo, pr, rs, fs, rc, mh)) : wL_law_915 post L xs J46 x1 (nI r) kc ks tT wS rL sg rC gR hd lW lv oN ur cR K V N nx ws fo pr rs fs rc mh := by
  rcases I with I | ⟨n, f, e, I⟩ | ⟨f, la, I⟩
  · refine qs_clF I (fun u' I' => ?_)
    obtain ⟨tT', wS', rL', sg', rC', gR', hd', lW', lv', oN', ur', cR', K', V', N', nx', ws', fo', pr', rs', fs', rc', mh'⟩ := u'
    exact nm_r (nI_1 r) (hJ tT' wS' rL' sg' rC' gR' hd' lW' lv' oN' ur' cR' K' V' N' nx' ws' fo' pr' rs' fs' rc' mh' I')
  · refine qs_clM I (fun u' I' => ?_)
    obtain ⟨tT', wS', rL', sg', rC', gR', hd', lW', lv', oN', ur', cR', K', V', N', nx', ws', fo', pr', rs', fs', rc', mh'⟩ := u'
    exact nm_r (nI_1 r) (hJ tT' wS' rL' sg' rC' gR' hd' lW' lv' oN' ur' cR' K' V' N' nx' ws' fo' pr' rs' fs' rc' mh' I')
  · refine qs_clS I (fun u' I' => ?_)
    obtain ⟨tT', wS', rL', sg', rC', gR', hd', lW', lv', oN', ur', cR', K', V', N', nx', ws', fo', pr', rs', fs', rc', mh'⟩ := u'
    exact nm_r (nI_1 r) (hJ tT' wS' rL' sg' rC' gR' hd' lW' lv' oN' ur' cR' K' V' N' nx' ws' fo' pr' rs' fs' rc' mh' I')
theorem qs_576 {post : Int32 → Prop} {L : Nat} {xs : Nat → Int32} {J46 : Int32 → Int32 → Int32 → Int32 → Int32 → Int32 → Int32 → Int32 → Int32 → Int32 → Int32 → Int32 → Int32 → (Nat → Int32) → (Nat → Int32) → (Nat → Int32) → (Nat → Int32) → (Nat → Int32) → (Nat → Int32) → (Nat → Int32) → (Nat → Int32) → (Nat → Int32) → (Nat → Int32) → (Nat → Int32) → Prop} {x1 x7 md : Int32} {kc ks T W A c B r : Nat} (hL : L ≤ 260) (hB : B ≤ 1000) (hc : c ≤ 64)
    (hJ : ∀ (tT' wS' rL' sg' rC' gR' hd' lW' lv' oN' ur' cR' : Int32) (K' V' N' nx' ws' fo' pr' rs' fs' rc' mh' : Nat → Int32), (∀ ky' vl', qs_F T W A 0 ky' vl' (tT', wS', rL', sg', rC', gR', hd', lW', lv', oN', ur', cR', K', V', N', nx', ws', fo', pr', rs', fs', rc', mh')) → J46 (nI (r + 1)) tT' wS' rL' sg' rC' gR' hd' lW' lv' oN' ur' cR' K' V' N' nx' ws' fo' pr' rs' fs' rc' mh') :
    ∀ (m q : Nat) (tT wS rL sg rC gR hd lW lv oN ur cR : Int32) (K V N nx ws fo pr rs fs rc mh : Nat → Int32), q ≤ 2 → 2 - q < m → qs_Q T W A c (qs_ky L xs B md) (qs_vl L xs B) (tT, wS, rL, sg, rC, gR, hd, lW, lv, oN, ur, cR, K, V, N, nx, ws, fo, pr, rs, fs, rc, mh) → wL_law_576 post L xs J46 x1 (nI r) (nI B) md x7 (nI c) kc ks m (nI q) tT wS rL sg rC gR hd lW lv oN ur cR K V N nx ws fo pr rs fs rc mh := by
  intro m
  induction m with
  | zero => intro q tT wS rL sg rC gR hd lW lv oN ur cR K V N nx ws fo pr rs fs rc mh _ h; omega
  | succ m ih =>
    intro q tT wS rL sg rC gR hd lW lv oN ur cR K V N nx ws fo pr rs fs rc mh hq hm I
    refine ps_if (d := 2 ≤ q) (nI_leI (a := 2) (by omega) (by omega)) (fun _ => qs_915 hJ I) (fun z => ?_)
    have I2 := I
    rcases I2 with I2 | ⟨n, f, e, I2⟩ | ⟨f, la, I2⟩
    · exact qs_levF I2 (br_f (by decide) (qs_915 hJ I))
    · have n1 := (qs_mo I2).2.2.1
      have nT := (qs_mo I2).2.2.2.1
      exact qs_levM I2 (br_f (nI_ne0 (by omega) (by omega)) (qs_915 hJ I))
    · refine qs_levS I2 (br_t rfl ?_)
      have J : ∀ (la : Int32) (tT' wS' rL' sg' rC' gR' hd' lW' lv' oN' ur' cR' : Int32) (K' V' N' nx' ws' fo' pr' rs' fs' rc' mh' : Nat → Int32), qs_S T W A c f (qs_ky L xs B md) (qs_vl L xs B) la (tT', wS', rL', sg', rC', gR', hd', lW', lv', oN', ur', cR', K', V', N', nx', ws', fo', pr', rs', fs', rc', mh') → wL_law_576 post L xs J46 x1 (nI r) (nI B) md x7 (nI c) kc ks m (nI (q + 1)) tT' wS' rL' sg' rC' gR' hd' lW' lv' oN' ur' cR' K' V' N' nx' ws' fo' pr' rs' fs' rc' mh' := by
        intro la tT' wS' rL' sg' rC' gR' hd' lW' lv' oN' ur' cR' K' V' N' nx' ws' fo' pr' rs' fs' rc' mh' I'
        exact ih (q + 1) tT' wS' rL' sg' rC' gR' hd' lW' lv' oN' ur' cR' K' V' N' nx' ws' fo' pr' rs' fs' rc' mh' (by omega) (by omega) (Or.inr (Or.inr ⟨f, la, I'⟩))
      refine ps_if (d := q = 0) (nI_eq (b := 0) (by omega) (by omega)) (fun _ => ?_) (fun _ => ?_)
      · obtain ⟨p, hp, ep⟩ := pk_andE ((x7.toUInt32 >>> ((6 : Int32).toUInt32 &&& Int32.toUInt32 31)).toInt32) (m := 3) 2 (by decide)
        exact nm_r ep (Exists.intro (p + 1) (qs_618 hL hB hc (by omega) J (p + 1) 0 la tT wS rL sg rC gR hd lW lv oN ur cR K V N nx ws fo pr rs fs rc mh (by omega) (by omega) I2))
      · obtain ⟨p, hp, ep⟩ := pk_andE (qs_mix x7 1) (m := 31) 5 (by decide)
        exact qs_m (nm_r ep (Exists.intro (p + 1) (qs_618 hL hB hc (by omega) J (p + 1) 0 la tT wS rL sg rC gR hd lW lv oN ur cR K V N nx ws fo pr rs fs rc mh (by omega) (by omega) I2)))
