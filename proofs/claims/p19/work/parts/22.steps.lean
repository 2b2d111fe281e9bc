/-! finish, the merges, the reads, clear -/
theorem qs_finish {T W A c : Nat} {ky vl : Nat → Int32} {u : St2} {post : Int32 → St2 → Prop} (I : qs_F T W A c ky vl u)
    (h0 : ∀ n u', 1 ≤ n → n + T ≤ 10 → qs_M T W A c n (T - 1) (ps_pa T n (T - 2)) ky vl u' → post 0 u') (h5 : ∀ u', qs_S T W A c 0 ky vl (-1) u' → post 5 u') : wpX_finish post u := by
  obtain ⟨R, h, rn, w, wr, lW, K, V, N, nx, ws, fo, pr, rs, fs, rc, mh, ins, HC, HF, HK, rfl⟩ := I
  have hh := ps_hN HC
  have HC2 := HC
  obtain ⟨hT, w2, w8, a8, a6, ca, hN, hR⟩ := HC2
  obtain ⟨hW, _, F, Wk, hw, hi, hcn⟩ := HF
  have t4 := ps_T4 hT
  obtain ⟨n, hn, hR1, hR2⟩ := ps_lev hT hh.2.1
  refine br_t rfl ?_
  refine px_ew hh.1 (by omega) hh.2.2.2 F Wk hw (fun lW' nx' ws' fo' wr' al F' => ?_)
  have E := ps_FeedE F' al hR
  refine px_ch hT hh.2.1 hn hR1 hR2 (fun pr' hpr => ?_)
  refine px_di hT hn hh.2.1 hR1 hpr (fun x hx => (hR.1 x hx).1) E.1 (fun sl rcN rs' fs' rc' hfs D hrc hrp => ?_)
  have O := ps_DistE D hR.1 E.2
  have en : (nI n = 0 ↔ n = 0) := nI_eq (b := 0) (by omega) (by omega)
  refine ps_if en (fun n0 => ?_) (fun n0 => ?_)
  · subst n0
    refine px_es (f := 0) (p := 0) (by omega) (hfs 0 (by omega)) (by omega) (h5 _ ?_)
    have l0 : ps_live (fun _ => 0) rcN 0 := ⟨by omega, by rw [hrp 0 (by omega)]; exact (by decide : (0 % 32 + 32 - 0) % 32 < 1)⟩
    have l1 : ∀ s, ps_live (fun _ => 0) rcN s → s = 0 := by
      intro s hs
      obtain ⟨s1, s2⟩ := hs
      rw [hrp (s / 32) (by omega)] at s2
      by_cases e : s / 32 = 0
      · rw [e] at s2
        have : ps_pa T 0 0 = 1 := rfl
        rw [this] at s2
        have e3 : (s % 32 + 32 - 0) % 32 < 1 := s2
        omega
      · have : ps_pa T 0 (s / 32) = 0 := if_neg e
        rw [this] at s2
        exact absurd s2 (Nat.not_lt_zero _)
    have S := qs_So HK (ps_toS O l0 l1)
    refine ⟨R, 0, rn, rs' 0, lW', K, V, N, nx', ws', fo', pr', rs', fs', rc', mh, HC, ⟨by omega, by omega, hfs 0 (by omega), fun _ _ => rfl, S.1, S.2, Or.inl rfl, ?_⟩, ⟨?_, fun t ht t0 => ?_⟩, HK, rfl⟩
    · exact ps_mi_c (fun y => ⟨fun z => ⟨z, Or.inl rfl⟩, fun z => z.1⟩) S.1
    · rw [hrc 0 (by omega), hrp 0 (by omega)]; rfl
    · rw [hrc t (by omega), hrp t (by omega)]
      have : ps_pa T 0 t = 0 := if_neg t0
      rw [this]; rfl
  · have e1 : nI T - 1 = nI (T - 1) := ps_p1 (by omega)
    refine nm_r e1 (h0 n _ (by omega) hn ?_)
    refine ⟨R, 0, rn, fun _ => 0, rcN, fun x => sl (rn x), lW', K, V, N, nx', ws', fo', pr', rs', fs', rc', mh, HC, ⟨by omega, hn, by omega, ⟨by omega, (ps_tt1 hT (by omega) hn).1⟩, ?_, ?_, ?_, ?_, O⟩, HK, rfl⟩
    · intro t ht
      rw [hrp t (by omega)]
      by_cases e : t = T - 1
      · rw [if_pos e, e, ps_pa_0 hT (by omega)]
      · rw [if_neg e]
        have : (t + T - (T - 1) - 1) % T = t := by
          have e2 : t + T - (T - 1) - 1 = t := by omega
          rw [e2]; exact Nat.mod_eq_of_lt ht
        rw [this]; omega
    · intro t tT ht4; rw [hrp t ht4, ps_pa_0 hT (by omega)]
    · intro t ht; exact ⟨hfs t ht, by show 0 < 32; omega, hrc t ht⟩
    · intro t ht; exact hrc t (by omega)
theorem qs_mo {T W A c n f e : Nat} {ky vl : Nat → Int32} {u : St2} (I : qs_M T W A c n f e ky vl u) : e ≤ 24 ∧ 1 ≤ e ∧ 1 ≤ n ∧ n + T ≤ 10 ∧ f < T ∧ ps_T34 T ∧ ∀ post : Int32 → St2 → Prop,
    (∀ u', qs_M T W A c n f (e - 1) ky vl u' → 2 ≤ e → post 0 u') → (∀ u', e = 1 → 2 ≤ n → qs_M T W A c (n - 1) ((f + T - 1) % T) (ps_pa T (n - 1) (T - 2)) ky vl u' → post 4 u') → (∀ u', e = 1 → n = 1 → qs_S T W A c f ky vl (-1) u' → post 5 u') → wpX_mergeOne post u := by
  obtain ⟨R, d, rn, fsN, rcN, own, lW, K, V, N, nx, ws, fo, pr, rs, fs, rc, mh, HC, HM, HK, rfl⟩ := I
  have hh := ps_hN HC
  have hT := HC.1
  have t4 := ps_T4 hT
  obtain ⟨n1, nT, hf, ⟨he, e1⟩, hRc, hz, hfr, hhl, O⟩ := HM
  have pab := ps_pab hT nT (T - 2)
  have cb := ps_cb hT hf hRc
  have tt := ps_tt1 hT n1 nT
  have h1 : ∀ t, t < T → t ≠ f → 1 ≤ rcN t := by
    intro t ht tf
    have a := ps_ci hT hf ht tf
    have b := tt.2 _ a
    rw [hRc t ht, if_neg tf]
    omega
  have hr : ∀ t, t < 4 → rcN t ≤ 31 := by
    intro t ht
    by_cases g : t < T
    · have a := ps_pab hT nT ((t + T - f - 1) % T)
      rw [hRc t g]
      split <;> omega
    · rw [hz t (by omega) ht]; omega
  have hs : ps_r1 T f rcN ((f + T - 1) % T) = e - 1 := by
    unfold ps_r1
    rw [if_neg cb.2.1, if_pos cb.1, cb.2.2]
    omega
  have hRc' : ps_Rc T n f (d + 1) (ps_r1 T f rcN) := by
    refine ps_RcM hf hRc (fun t ht => ?_)
    unfold ps_r1
    by_cases g : t = f
    · rw [if_pos g, if_pos g]
    · rw [if_neg g, if_neg g, if_pos ht]
  have hz' : ∀ t, T ≤ t → t < 4 → ps_r1 T f rcN t = 0 := by
    intro t tT ht
    unfold ps_r1
    rw [if_neg (by omega), if_neg (by omega)]
    exact hz t tT ht
  have f1 : ∀ t, t < 4 → ps_f1 T f fsN t < 32 := by
    intro t ht
    unfold ps_f1
    have := (hfr t ht).2.1
    split <;> omega
  refine ⟨by omega, e1, n1, nT, hf, hT, fun post p0 p4 p5 => ?_⟩
  refine px_mo hT hh.1 hf n1 (by omega) hfr h1 hr O hs (fun own' nx' rs' fs' rc' mh' a b O' => ⟨fun z => ?_, fun z z1 => ?_, fun z z1 => ?_⟩)
  · exact p0 _ ⟨R, d + 1, rn, ps_f1 T f fsN, ps_r1 T f rcN, own', lW, K, V, N, nx', ws, fo, pr, rs', fs', rc', mh', HC, ⟨n1, nT, hf, ⟨by omega, by omega⟩, hRc', hz', fun t ht => ⟨a t ht, f1 t ht, b t ht⟩, fun t ht => b t (by omega), O'⟩, HK, rfl⟩ (by omega)
  · subst z1
    have ed : d + 1 = ps_pa T 1 (T - 2) := by omega
    have hRcP : ps_Rc T 0 ((f + T - 1) % T) 0 (ps_r1 T f rcN) := ps_RcP hT nT hf (ed ▸ hRc')
    refine p5 _ (by omega) rfl ?_
    have r0 := ps_Rc0 hT hf hRcP
    have ff := f1 f (by omega)
    have l0 : ps_live (ps_f1 T f fsN) (ps_r1 T f rcN) (f * 32 + ps_f1 T f fsN f) := by
      have g : (f * 32 + ps_f1 T f fsN f) / 32 = f := by omega
      refine ⟨by omega, ?_⟩
      rw [g, r0.1]
      omega
    have l1 : ∀ s, ps_live (ps_f1 T f fsN) (ps_r1 T f rcN) s → s = f * 32 + ps_f1 T f fsN f := by
      intro s hs2
      obtain ⟨s1, s2⟩ := hs2
      by_cases g : s / 32 = f
      · rw [g, r0.1] at s2
        omega
      · exfalso
        by_cases y : s / 32 < T
        · rw [r0.2 _ y g] at s2; exact absurd s2 (Nat.not_lt_zero _)
        · rw [hz' _ (by omega) (by omega)] at s2; exact absurd s2 (Nat.not_lt_zero _)
    have S := qs_So HK (ps_toS O' l0 l1)
    refine ⟨R, ps_f1 T f fsN f, rn, rs' (f * 32 + ps_f1 T f fsN f), lW, K, V, N, nx', ws, fo, pr, rs', fs', rc', mh', HC, ⟨hf, ff, a f (by omega), fun _ _ => rfl, S.1, S.2, Or.inl rfl, ?_⟩, ⟨?_, fun t ht tf => ?_⟩, HK, rfl⟩
    · exact ps_mi_c (fun y => ⟨fun z => ⟨z, Or.inl rfl⟩, fun z => z.1⟩) S.1
    · rw [b f (by omega), r0.1]; rfl
    · rw [b t (by omega), r0.2 t ht tf]; rfl
  · obtain ⟨n', rfl⟩ : ∃ n', n = n' + 1 := ⟨n - 1, by omega⟩
    have ed : d + 1 = ps_pa T (n' + 1) (T - 2) := by omega
    have hRcP : ps_Rc T n' ((f + T - 1) % T) 0 (ps_r1 T f rcN) := ps_RcP hT nT hf (ed ▸ hRc')
    refine p4 _ (by omega) z1 ?_
    exact ⟨R, 0, rn, ps_f1 T f fsN, ps_r1 T f rcN, own', lW, K, V, N, nx', ws, fo, pr, rs', fs', rc', mh', HC, ⟨by omega, by omega, cb.1, ⟨by show ps_pa T n' (T - 2) = 0 + ps_pa T n' (T - 2); omega, (ps_tt1 hT (by omega) (by omega)).1⟩, hRcP, hz', fun t ht => ⟨a t ht, f1 t ht, b t ht⟩, fun t ht => b t (by omega), O'⟩, HK, rfl⟩
theorem qs_mpl {T W A c n f : Nat} {ky vl : Nat → Int32} {post : Int32 → St2 → Prop}
    (h4 : ∀ u', 2 ≤ n → qs_M T W A c (n - 1) ((f + T - 1) % T) (ps_pa T (n - 1) (T - 2)) ky vl u' → post 4 u') (h5 : ∀ u', n = 1 → qs_S T W A c f ky vl (-1) u' → post 5 u') :
    ∀ (m i : Nat) (r : Int32) (u : St2), 32 - i < m → i ≤ 32 → ((r = 0 ∧ ∃ e, qs_M T W A c n f e ky vl u ∧ e + i ≤ 23) ∨ (¬ r = 0 ∧ post r u)) → px_MP post m r (nI i) u := by
  intro m
  induction m with
  | zero => intro i r u h; omega
  | succ m ih =>
    intro i r u hm hi Q
    rcases Q with ⟨r0, e, I, ei⟩ | ⟨r0, P⟩
    · have S := qs_mo I
      obtain ⟨tT, wS, rL, sg, rC, gR, hd, lW, lv, oN, ur, cR, K, V, N, nx, ws, fo, pr, rs, fs, rc, mh⟩ := u
      refine br_f (nI_ge (b := 32) (by omega) (by decide)) (br_t r0 (S.2.2.2.2.2.2 _ (fun u' I' e2 => ?_) (fun u' e1 n2 I' => ?_) (fun u' e1 n1 I' => ?_)))
      · have R := ih (i + 1) 0 u' (by omega) (by omega) (Or.inl ⟨rfl, e - 1, I', by omega⟩)
        obtain ⟨tT', wS', rL', sg', rC', gR', hd', lW', lv', oN', ur', cR', K', V', N', nx', ws', fo', pr', rs', fs', rc', mh'⟩ := u'
        exact nm_r (nI_1 i) R
      · have R := ih (i + 1) 4 u' (by omega) (by omega) (Or.inr ⟨by decide, h4 u' n2 I'⟩)
        obtain ⟨tT', wS', rL', sg', rC', gR', hd', lW', lv', oN', ur', cR', K', V', N', nx', ws', fo', pr', rs', fs', rc', mh'⟩ := u'
        exact nm_r (nI_1 i) R
      · have R := ih (i + 1) 5 u' (by omega) (by omega) (Or.inr ⟨by decide, h5 u' n1 I'⟩)
        obtain ⟨tT', wS', rL', sg', rC', gR', hd', lW', lv', oN', ur', cR', K', V', N', nx', ws', fo', pr', rs', fs', rc', mh'⟩ := u'
        exact nm_r (nI_1 i) R
    · obtain ⟨tT, wS, rL, sg, rC, gR, hd, lW, lv, oN, ur, cR, K, V, N, nx, ws, fo, pr, rs, fs, rc, mh⟩ := u
      exact br_c (fun _ => P) (fun _ => br_f r0 P)
theorem qs_mp {T W A c n f e : Nat} {ky vl : Nat → Int32} {u : St2} {post : Int32 → St2 → Prop} (I : qs_M T W A c n f e ky vl u)
    (h4 : ∀ u', 2 ≤ n → qs_M T W A c (n - 1) ((f + T - 1) % T) (ps_pa T (n - 1) (T - 2)) ky vl u' → post 4 u') (h5 : ∀ u', n = 1 → qs_S T W A c f ky vl (-1) u' → post 5 u') : wpX_mergePhase post u := by
  have S := qs_mo I
  have G : ∀ (r : Int32) (u' : St2), ((r = 0 ∧ ∃ e, qs_M T W A c n f e ky vl u' ∧ e + 0 ≤ 23) ∨ (¬ r = 0 ∧ post r u')) → px_MP post 33 r (nI 0) u' := fun r u' h => qs_mpl h4 h5 33 0 r u' (by omega) (by omega) h
  obtain ⟨tT, wS, rL, sg, rC, gR, hd, lW, lv, oN, ur, cR, K, V, N, nx, ws, fo, pr, rs, fs, rc, mh⟩ := u
  unfold wpX_mergePhase
  refine S.2.2.2.2.2.2 _ (fun u' I' e2 => ?_) (fun u' e1 n2 I' => ?_) (fun u' e1 n1 I' => ?_)
  · have g := G 0 u' (Or.inl ⟨rfl, e - 1, I', by omega⟩)
    obtain ⟨tT', wS', rL', sg', rC', gR', hd', lW', lv', oN', ur', cR', K', V', N', nx', ws', fo', pr', rs', fs', rc', mh'⟩ := u'
    exact Exists.intro 33 g
  · have g := G 4 u' (Or.inr ⟨by decide, h4 u' n2 I'⟩)
    obtain ⟨tT', wS', rL', sg', rC', gR', hd', lW', lv', oN', ur', cR', K', V', N', nx', ws', fo', pr', rs', fs', rc', mh'⟩ := u'
    exact Exists.intro 33 g
  · have g := G 5 u' (Or.inr ⟨by decide, h5 u' n1 I'⟩)
    obtain ⟨tT', wS', rL', sg', rC', gR', hd', lW', lv', oN', ur', cR', K', V', N', nx', ws', fo', pr', rs', fs', rc', mh'⟩ := u'
    exact Exists.intro 33 g
theorem qs_read {T W A c f : Nat} {ky vl : Nat → Int32} {la : Int32} {u : St2} {post : Int32 → St2 → Prop} (I : qs_S T W A c f ky vl la u)
    (h3 : (∀ y, ¬ ps_aft ky c la y) → post 3 u) (h0 : ∀ b u', b < c → ps_mi (ps_L ky) (ps_aft ky c la) (nI b) → qs_S T W A c f ky vl (nI b) u' → post 0 u') : wpX_read post u := by
  obtain ⟨R, p, rn, ur, lW, K, V, N, nx, ws, fo, pr, rs, fs, rc, mh, HC, HS, Hr, HK, rfl⟩ := I
  have hh := ps_hN HC
  obtain ⟨hf, hp, hfs, hrc, hrs, hnx, hla, hur⟩ := HS
  rcases hur with ⟨eu, no⟩ | ⟨b, eb, pb, mb⟩
  · subst eu
    exact br_t rfl (br_t rfl (h3 no))
  · subst eb
    have bc := pb.1
    have e2 : (nI b).toNatClampNeg = b := nI_clamp (by omega)
    refine br_t rfl (br_f (ps_ne (by omega)) (And.intro (vp_in_nI (by omega) (by decide)) (nm_r (e' := nx b) (by rw [e2]) (h0 b _ bc (Or.inr ⟨b, rfl, pb, mb⟩) ?_))))
    refine ⟨R, p, rn, nx b, lW, K, V, N, nx, ws, fo, pr, rs, fs, rc, mh, HC, ⟨hf, hp, hfs, hrc, hrs, hnx, Or.inr ⟨b, bc, rfl⟩, ?_⟩, Hr, HK, rfl⟩
    refine ps_mi_c (fun y => ⟨fun z => ⟨z.1, Or.inr ⟨b, bc, rfl, z.2⟩⟩, fun z => ⟨z.1, ?_⟩⟩) (hnx b bc)
    rcases z.2 with w | ⟨l, lc, el, hl'⟩
    · exact absurd w (ps_ne (by omega))
    · have e := ps_inj (by omega) (by omega) el
      rw [e]; exact hl'
theorem qs_rew {T W A c f : Nat} {ky vl : Nat → Int32} {la : Int32} {u : St2} {post : Int32 → St2 → Prop} (I : qs_S T W A c f ky vl la u) (h : ∀ u', qs_S T W A c f ky vl (-1) u' → post 0 u') : wpX_rewind post u := by
  obtain ⟨R, p, rn, ur, lW, K, V, N, nx, ws, fo, pr, rs, fs, rc, mh, HC, HS, Hr, HK, rfl⟩ := I
  have t4 := ps_T4 HC.1
  obtain ⟨hf, hp, hfs, hrc, hrs, hnx, hla, hur⟩ := HS
  refine br_t rfl ?_
  unfold wpX_goToStart
  refine px_fro (by omega) hfs hp (h _ ?_)
  refine ⟨R, p, rn, rs (f * 32 + p), lW, K, V, N, nx, ws, fo, pr, rs, fs, rc, mh, HC, ⟨hf, hp, hfs, hrc, hrs, hnx, Or.inl rfl, ?_⟩, Hr, HK, rfl⟩
  exact ps_mi_c (fun y => ⟨fun z => ⟨z, Or.inl rfl⟩, fun z => z.1⟩) hrs
theorem qs_rfl {T W A c f : Nat} {ky vl : Nat → Int32} {post : Int32 → St2 → Prop} {x1 : Int32} (h : ∀ r la u', qs_S T W A c f ky vl la u' → post r u') :
    ∀ (m i : Nat) (r : Int32) (u : St2), 64 - i < m → i ≤ 64 → ((r = 0 ∧ ∃ l, l < 64 ∧ qs_S T W A c f ky vl (nI l) u) ∨ (¬ r = 0 ∧ ∃ la, qs_S T W A c f ky vl la u)) → px_RF post x1 m r (nI i) u := by
  intro m
  induction m with
  | zero => intro i r u h; omega
  | succ m ih =>
    intro i r u hm hi Q
    rcases Q with ⟨r0, l, l64, J⟩ | ⟨r0, la, J⟩
    · have P : post r u := h r _ u J
      have S := fun (post' : Int32 → St2 → Prop) => qs_read (post := post') J
      have J2 := J
      obtain ⟨R, p, rn, ur, lW, K, V, N, nx, ws, fo, pr, rs, fs, rc, mh, HC, HS, Hr, HK, rfl⟩ := J2
      have il : vp_in (nI l) 64 := vp_in_nI l64 (by decide)
      refine br_c (fun _ => P) (fun i64 => br_t r0 (And.intro il (br_c (fun _ => P) (fun _ => ?_))))
      have hi2 : i < 64 := by
        by_cases z : i < 64
        · exact z
        · exact absurd (nI_le (a := 64) (b := i) (by omega) (by omega)) i64
      refine S _ (fun _ => ?_) (fun b u' bc _ I' => ?_)
      · exact nm_r (nI_1 i) (ih (i + 1) 3 _ (by omega) (by omega) (Or.inr ⟨by decide, _, J⟩))
      · have hh := ps_hN HC
        have G := ih (i + 1) 0 u' (by omega) (by omega) (Or.inl ⟨rfl, b, by omega, I'⟩)
        obtain ⟨tT', wS', rL', sg', rC', gR', hd', lW', lv', oN', ur', cR', K', V', N', nx', ws', fo', pr', rs', fs', rc', mh'⟩ := u'
        exact nm_r (nI_1 i) G
    · have P : post r u := h r _ u J
      obtain ⟨tT, wS, rL, sg, rC, gR, hd, lW, lv, oN, ur, cR, K, V, N, nx, ws, fo, pr, rs, fs, rc, mh⟩ := u
      exact br_c (fun _ => P) (fun _ => br_f r0 P)
theorem qs_rf {T W A c f : Nat} {ky vl : Nat → Int32} {la x1 : Int32} {u : St2} {post : Int32 → St2 → Prop} (I : qs_S T W A c f ky vl la u) (h : ∀ r la u', qs_S T W A c f ky vl la u' → post r u') : wpX_readFrom post u x1 := by
  have S := fun (post' : Int32 → St2 → Prop) => qs_read (post := post') I
  have I2 := I
  obtain ⟨R, p, rn, ur, lW, K, V, N, nx, ws, fo, pr, rs, fs, rc, mh, HC, HS, Hr, HK, rfl⟩ := I2
  unfold wpX_readFrom
  refine S _ (fun _ => ?_) (fun b u' bc _ I' => ?_)
  · exact Exists.intro 65 (qs_rfl h 65 0 3 _ (by omega) (by omega) (Or.inr ⟨by decide, _, I⟩))
  · have hh := ps_hN HC
    have G := qs_rfl (x1 := x1) h 65 0 0 u' (by omega) (by omega) (Or.inl ⟨rfl, b, by omega, I'⟩)
    obtain ⟨tT', wS', rL', sg', rC', gR', hd', lW', lv', oN', ur', cR', K', V', N', nx', ws', fo', pr', rs', fs', rc', mh'⟩ := u'
    exact Exists.intro 65 G
/-- the fields of the current record -/
theorem qs_fld {T W A c f b : Nat} {ky vl : Nat → Int32} {u : St2} (I : qs_S T W A c f ky vl (nI b) u) (bc : b < c) : ∃ g : Int32, ∀ post : Int32 → Prop,
    (post (ky b) → wpX_field post u (nI b) 0 ∧ wpX_current post u 0) ∧ (post (vl b) → wpX_field post u (nI b) 1 ∧ wpX_current post u 1) ∧ (post g → wpX_field post u (nI b) 2 ∧ wpX_current post u 2) ∧ (post (nI b) → wpX_current post u 3) := by
  obtain ⟨R, p, rn, ur, lW, K, V, N, nx, ws, fo, pr, rs, fs, rc, mh, HC, HS, Hr, HK, rfl⟩ := I
  have hh := ps_hN HC
  have e2 : (nI b).toNatClampNeg = b := nI_clamp (by omega)
  have n0 : ¬ nI b < 0 := nI_pos (by omega)
  have nc : nI b < nI c := nI_lt bc (by omega)
  have no : ¬ (nI b < 0 ∨ ¬ nI b < nI c) := fun z => z.elim n0 (fun y => y nc)
  have k := HK b bc
  have a0 : ps_fa (nI c) K V N (nI b) 0 = ky b := by
    unfold ps_fa
    rw [if_neg (by decide), if_neg (by decide), if_neg no, if_pos rfl, e2]; exact k.1
  have a1 : ps_fa (nI c) K V N (nI b) 1 = vl b := by
    unfold ps_fa
    rw [if_neg (by decide), if_neg (by decide), if_neg no, if_neg (by decide), if_pos rfl, e2]; exact k.2
  have a3 : ps_fa (nI c) K V N (nI b) 3 = nI b := by
    unfold ps_fa
    rw [if_neg (by decide), if_neg (by decide), if_neg no, if_neg (by decide), if_neg (by decide), if_neg (by decide)]
  refine ⟨ps_fa (nI c) K V N (nI b) 2, fun post => ⟨fun h => ⟨px_fi hh.1 (by rw [a0]; exact h), ?_⟩, fun h => ⟨px_fi hh.1 (by rw [a1]; exact h), ?_⟩, fun h => ⟨px_fi hh.1 h, ?_⟩, fun h => ?_⟩⟩
  · unfold wpX_current; exact px_fi hh.1 (by rw [a0]; exact h)
  · unfold wpX_current; exact px_fi hh.1 (by rw [a1]; exact h)
  · unfold wpX_current; exact px_fi hh.1 h
  · unfold wpX_current; exact px_fi hh.1 (by rw [a3]; exact h)
/-! clear and the constructor -/
theorem qs_fresh {T W A : Nat} (hT : ps_T34 T) (hW : 2 ≤ W) (hW8 : W ≤ 8) (hA : 8 ≤ A) (hA6 : A ≤ 64) (ky vl : Nat → Int32) {K V N nx ws fo pr rs fs rc mh : Nat → Int32} :
    qs_F T W A 0 ky vl (nI T, nI W, nI A, 0, 0, 0, 0, -1, -1, -1, -1, -1, K, V, N, nx, ws, fo, pr, rs, fs, rc, mh) :=
  ⟨0, 0, fun _ => 0, fun _ => 0, fun _ => False, -1, K, V, N, nx, ws, fo, pr, rs, fs, rc, mh, fun _ => 0,
    ⟨hT, hW, hW8, hA, hA6, by omega, fun x h => absurd h (Nat.not_lt_zero x), ps_Rn0 _⟩,
    ⟨by omega, fun _ => ⟨rfl, rfl⟩, ps_Feed0 _ _ _ _, ps_Ws0 _ _, fun j h => absurd h (Nat.not_lt_zero j), fun x h => absurd h (Nat.not_lt_zero x), rfl⟩, fun x h => absurd h (Nat.not_lt_zero x), rfl⟩
theorem qs_clF {T W A c : Nat} {ky vl : Nat → Int32} {u : St2} {post : St2 → Prop} (I : qs_F T W A c ky vl u) (h : ∀ u', (∀ ky' vl', qs_F T W A 0 ky' vl' u') → post u') : wpX_clear post u := by
  obtain ⟨R, hx, rn, w, wr, lW, K, V, N, nx, ws, fo, pr, rs, fs, rc, mh, ins, HC, HF, HK, rfl⟩ := I
  exact px_clear (h _ (fun ky' vl' => qs_fresh HC.1 HC.2.1 HC.2.2.1 HC.2.2.2.1 HC.2.2.2.2.1 ky' vl'))
theorem qs_clM {T W A c n f e : Nat} {ky vl : Nat → Int32} {u : St2} {post : St2 → Prop} (I : qs_M T W A c n f e ky vl u) (h : ∀ u', (∀ ky' vl', qs_F T W A 0 ky' vl' u') → post u') : wpX_clear post u := by
  obtain ⟨R, d, rn, fsN, rcN, own, lW, K, V, N, nx, ws, fo, pr, rs, fs, rc, mh, HC, HM, HK, rfl⟩ := I
  exact px_clear (h _ (fun ky' vl' => qs_fresh HC.1 HC.2.1 HC.2.2.1 HC.2.2.2.1 HC.2.2.2.2.1 ky' vl'))
theorem qs_clS {T W A c f : Nat} {ky vl : Nat → Int32} {la : Int32} {u : St2} {post : St2 → Prop} (I : qs_S T W A c f ky vl la u) (h : ∀ u', (∀ ky' vl', qs_F T W A 0 ky' vl' u') → post u') : wpX_clear post u := by
  obtain ⟨R, p, rn, ur, lW, K, V, N, nx, ws, fo, pr, rs, fs, rc, mh, HC, HS, Hr, HK, rfl⟩ := I
  exact px_clear (h _ (fun ky' vl' => qs_fresh HC.1 HC.2.1 HC.2.2.1 HC.2.2.2.1 HC.2.2.2.2.1 ky' vl'))
