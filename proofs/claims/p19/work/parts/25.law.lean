/-! the checks after a phase -/
theorem qs_rot {T f j : Nat} (hT : ps_T34 T) (hf : f < T) (j1 : 1 ≤ j) (jT : j < T) : (f + j) % T < T ∧ (f + j) % T ≠ f ∧ ((f + j) % T + T - f - 1) % T = j - 1 := by
  rcases hT with e | e <;> subst e <;> omega
theorem qs_506M {post : Int32 → Prop} {L : Nat} {xs : Nat → Int32} {J46 : Int32 → Int32 → Int32 → Int32 → Int32 → Int32 → Int32 → Int32 → Int32 → Int32 → Int32 → Int32 → Int32 → (Nat → Int32) → (Nat → Int32) → (Nat → Int32) → (Nat → Int32) → (Nat → Int32) → (Nat → Int32) → (Nat → Int32) → (Nat → Int32) → (Nat → Int32) → (Nat → Int32) → (Nat → Int32) → Prop} {J236 : Int32 → Int32 → Int32 → Int32 → Int32 → Int32 → Int32 → Int32 → Int32 → Int32 → Int32 → Int32 → Int32 → Int32 → (Nat → Int32) → (Nat → Int32) → (Nat → Int32) → (Nat → Int32) → (Nat → Int32) → (Nat → Int32) → (Nat → Int32) → (Nat → Int32) → (Nat → Int32) → (Nat → Int32) → (Nat → Int32) → Prop} {x3 x4 x6 x7 x8 x9 x10 x11 : Int32} {kc ks T W A c n f s : Nat} {ky vl : Nat → Int32} {tT wS rL sg rC gR hd lW lv oN ur cR : Int32} {K V N nx ws fo pr rs fs rc mh : Nat → Int32} (n1 : 1 ≤ n) (nT : n + T ≤ 10) (hf : f < T) (hT : ps_T34 T)
    (I : qs_M T W A c n f (ps_pa T n (T - 2)) ky vl (tT, wS, rL, sg, rC, gR, hd, lW, lv, oN, ur, cR, K, V, N, nx, ws, fo, pr, rs, fs, rc, mh)) (hJ : J236 x11 (nI (s + 1)) tT wS rL sg rC gR hd lW lv oN ur cR K V N nx ws fo pr rs fs rc mh) :
    ∀ m j, 1 ≤ j → j ≤ T → T - j < m → wL_law_506 post L xs J46 J236 (nI T) x3 x4 x6 x7 x8 x9 x10 x11 (nI s) (nI n) (nI f) kc ks tT wS rL sg rC gR hd lW lv oN ur cR K V N nx ws fo pr rs fs rc mh m (nI j) := by
  have t4 := ps_T4 hT
  intro m
  induction m with
  | zero => intro j _ _ h; omega
  | succ m ih =>
    intro j j1 jT hm
    refine ps_if (d := T ≤ j) (nI_leI (by omega) (by omega)) (fun _ => nm_r (nI_1 s) hJ) (fun z => ?_)
    refine And.intro (nI_ne0 (by omega) (by omega)) ?_
    have r := qs_rot hT hf j1 (by omega)
    have ei : (nI f + nI j) - (nI f + nI j) / nI T * nI T = nI ((f + j) % T) := by
      rw [nI_add]; exact pk_rem (by omega) (by omega) (by omega)
    rw [ei]
    refine qs_roM I r.1 ?_
    rw [if_neg r.2.1, r.2.2]
    refine br_f (nI_ne0 (by omega) (by omega)) (qs_row hT (by omega) j1 (by omega) (br_t rfl (nm_r (nI_1 j) (ih (j + 1) (by omega) (by omega) (by omega)))))
theorem qs_506S {post : Int32 → Prop} {L : Nat} {xs : Nat → Int32} {J46 : Int32 → Int32 → Int32 → Int32 → Int32 → Int32 → Int32 → Int32 → Int32 → Int32 → Int32 → Int32 → Int32 → (Nat → Int32) → (Nat → Int32) → (Nat → Int32) → (Nat → Int32) → (Nat → Int32) → (Nat → Int32) → (Nat → Int32) → (Nat → Int32) → (Nat → Int32) → (Nat → Int32) → (Nat → Int32) → Prop} {J236 : Int32 → Int32 → Int32 → Int32 → Int32 → Int32 → Int32 → Int32 → Int32 → Int32 → Int32 → Int32 → Int32 → Int32 → (Nat → Int32) → (Nat → Int32) → (Nat → Int32) → (Nat → Int32) → (Nat → Int32) → (Nat → Int32) → (Nat → Int32) → (Nat → Int32) → (Nat → Int32) → (Nat → Int32) → (Nat → Int32) → Prop} {x3 x4 x6 x7 x8 x9 x10 x11 la : Int32} {kc ks T W A c f s : Nat} {ky vl : Nat → Int32} {tT wS rL sg rC gR hd lW lv oN ur cR : Int32} {K V N nx ws fo pr rs fs rc mh : Nat → Int32} (hf : f < T) (hT : ps_T34 T)
    (I : qs_S T W A c f ky vl la (tT, wS, rL, sg, rC, gR, hd, lW, lv, oN, ur, cR, K, V, N, nx, ws, fo, pr, rs, fs, rc, mh)) (hJ : J236 x11 (nI (s + 1)) tT wS rL sg rC gR hd lW lv oN ur cR K V N nx ws fo pr rs fs rc mh) :
    ∀ m j, 1 ≤ j → j ≤ T → T - j < m → wL_law_506 post L xs J46 J236 (nI T) x3 x4 x6 x7 x8 x9 x10 x11 (nI s) 0 (nI f) kc ks tT wS rL sg rC gR hd lW lv oN ur cR K V N nx ws fo pr rs fs rc mh m (nI j) := by
  have t4 := ps_T4 hT
  intro m
  induction m with
  | zero => intro j _ _ h; omega
  | succ m ih =>
    intro j j1 jT hm
    refine ps_if (d := T ≤ j) (nI_leI (by omega) (by omega)) (fun _ => nm_r (nI_1 s) hJ) (fun z => ?_)
    refine And.intro (nI_ne0 (by omega) (by omega)) ?_
    have r := qs_rot hT hf j1 (by omega)
    have ei : (nI f + nI j) - (nI f + nI j) / nI T * nI T = nI ((f + j) % T) := by
      rw [nI_add]; exact pk_rem (by omega) (by omega) (by omega)
    rw [ei]
    refine qs_roS I r.1 (fun e => absurd e r.2.1) (fun _ => ?_)
    exact br_t rfl (br_t rfl (nm_r (nI_1 j) (ih (j + 1) (by omega) (by omega) (by omega))))
theorem qs_465M {post : Int32 → Prop} {L : Nat} {xs : Nat → Int32} {J46 : Int32 → Int32 → Int32 → Int32 → Int32 → Int32 → Int32 → Int32 → Int32 → Int32 → Int32 → Int32 → Int32 → (Nat → Int32) → (Nat → Int32) → (Nat → Int32) → (Nat → Int32) → (Nat → Int32) → (Nat → Int32) → (Nat → Int32) → (Nat → Int32) → (Nat → Int32) → (Nat → Int32) → (Nat → Int32) → Prop} {J236 : Int32 → Int32 → Int32 → Int32 → Int32 → Int32 → Int32 → Int32 → Int32 → Int32 → Int32 → Int32 → Int32 → Int32 → (Nat → Int32) → (Nat → Int32) → (Nat → Int32) → (Nat → Int32) → (Nat → Int32) → (Nat → Int32) → (Nat → Int32) → (Nat → Int32) → (Nat → Int32) → (Nat → Int32) → (Nat → Int32) → Prop} {x3 x4 x6 x7 x8 x9 x10 x11 : Int32} {kc ks T W A c n f s : Nat} {ky vl : Nat → Int32} {tT wS rL sg rC gR hd lW lv oN ur cR : Int32} {K V N nx ws fo pr rs fs rc mh : Nat → Int32}
    (I : qs_M T W A c n f (ps_pa T n (T - 2)) ky vl (tT, wS, rL, sg, rC, gR, hd, lW, lv, oN, ur, cR, K, V, N, nx, ws, fo, pr, rs, fs, rc, mh)) (hJ : J236 x11 (nI (s + 1)) tT wS rL sg rC gR hd lW lv oN ur cR K V N nx ws fo pr rs fs rc mh) : wL_law_465 post L xs J46 J236 (nI T) x3 x4 x6 x7 x8 x9 x10 x11 (nI s) kc ks tT wS rL sg rC gR hd lW lv oN ur cR K V N nx ws fo pr rs fs rc mh := by
  obtain ⟨_, e1, n1, nT, hf, hT, _⟩ := qs_mo I
  have t4 := ps_T4 hT
  refine qs_levM I (qs_outM I (br_f (nI_pos (by omega)) (qs_roM I hf ?_)))
  rw [if_pos (rfl : f = f)]
  exact br_f (nI_ne0 (by omega) (by omega)) (br_t rfl (Exists.intro T (qs_506M n1 nT hf hT I hJ T 1 (by omega) (by omega) (by omega))))
theorem qs_465S {post : Int32 → Prop} {L : Nat} {xs : Nat → Int32} {J46 : Int32 → Int32 → Int32 → Int32 → Int32 → Int32 → Int32 → Int32 → Int32 → Int32 → Int32 → Int32 → Int32 → (Nat → Int32) → (Nat → Int32) → (Nat → Int32) → (Nat → Int32) → (Nat → Int32) → (Nat → Int32) → (Nat → Int32) → (Nat → Int32) → (Nat → Int32) → (Nat → Int32) → (Nat → Int32) → Prop} {J236 : Int32 → Int32 → Int32 → Int32 → Int32 → Int32 → Int32 → Int32 → Int32 → Int32 → Int32 → Int32 → Int32 → Int32 → (Nat → Int32) → (Nat → Int32) → (Nat → Int32) → (Nat → Int32) → (Nat → Int32) → (Nat → Int32) → (Nat → Int32) → (Nat → Int32) → (Nat → Int32) → (Nat → Int32) → (Nat → Int32) → Prop} {x3 x4 x6 x7 x8 x9 x10 x11 la : Int32} {kc ks T W A c f s : Nat} {ky vl : Nat → Int32} {tT wS rL sg rC gR hd lW lv oN ur cR : Int32} {K V N nx ws fo pr rs fs rc mh : Nat → Int32}
    (I : qs_S T W A c f ky vl la (tT, wS, rL, sg, rC, gR, hd, lW, lv, oN, ur, cR, K, V, N, nx, ws, fo, pr, rs, fs, rc, mh)) (hJ : J236 x11 (nI (s + 1)) tT wS rL sg rC gR hd lW lv oN ur cR K V N nx ws fo pr rs fs rc mh) : wL_law_465 post L xs J46 J236 (nI T) x3 x4 x6 x7 x8 x9 x10 x11 (nI s) kc ks tT wS rL sg rC gR hd lW lv oN ur cR K V N nx ws fo pr rs fs rc mh := by
  have I2 := I
  obtain ⟨R, p, rn, ur', lW', K', V', N', nx', ws', fo', pr', rs', fs', rc', mh', HC, HS, Hr, HK, _⟩ := I2
  have hT := HC.1
  have hf := HS.1
  have t4 := ps_T4 hT
  refine qs_levS I (qs_outS I (br_f (by decide) (qs_roS I hf (fun _ => ?_) (fun z => absurd rfl z))))
  exact br_t rfl (br_t rfl (Exists.intro T (qs_506S hf hT I hJ T 1 (by omega) (by omega) (by omega))))
/-! one step -/
def qs_rem (T n e : Nat) : Nat := e + qs_mg T (n - 1)
theorem qs_remP {T n : Nat} (h : 1 ≤ n) : qs_rem T n (ps_pa T n (T - 2)) = qs_mg T n := by
  obtain ⟨m, rfl⟩ : ∃ m, n = m + 1 := ⟨n - 1, by omega⟩
  show ps_pa T (m + 1) (T - 2) + qs_mg T (m + 1 - 1) = qs_mg T m + ps_pa T (m + 1) (T - 2)
  rw [Nat.add_sub_cancel]
  exact Nat.add_comm _ _
/-- a state at the head of a step s that is not the first -/
def qs_H (T W A c s : Nat) (ky vl : Nat → Int32) (u : St2) : Prop := (∃ n f e, qs_M T W A c n f e ky vl u ∧ qs_rem T n e + s ≤ 41) ∨ (∃ f la, qs_S T W A c f ky vl la u)
theorem qs_397 {post : Int32 → Prop} {L : Nat} {xs : Nat → Int32} {J46 : Int32 → Int32 → Int32 → Int32 → Int32 → Int32 → Int32 → Int32 → Int32 → Int32 → Int32 → Int32 → Int32 → (Nat → Int32) → (Nat → Int32) → (Nat → Int32) → (Nat → Int32) → (Nat → Int32) → (Nat → Int32) → (Nat → Int32) → (Nat → Int32) → (Nat → Int32) → (Nat → Int32) → (Nat → Int32) → Prop} {J236 : Int32 → Int32 → Int32 → Int32 → Int32 → Int32 → Int32 → Int32 → Int32 → Int32 → Int32 → Int32 → Int32 → Int32 → (Nat → Int32) → (Nat → Int32) → (Nat → Int32) → (Nat → Int32) → (Nat → Int32) → (Nat → Int32) → (Nat → Int32) → (Nat → Int32) → (Nat → Int32) → (Nat → Int32) → (Nat → Int32) → Prop} {x3 x4 x6 x7 x8 x9 x10 x11 z0 : Int32} {kc ks T W A c n f e s : Nat} {ky vl : Nat → Int32} {tT wS rL sg rC gR hd lW lv oN ur cR : Int32} {K V N nx ws fo pr rs fs rc mh : Nat → Int32}
    (I : qs_M T W A c n f e ky vl (tT, wS, rL, sg, rC, gR, hd, lW, lv, oN, ur, cR, K, V, N, nx, ws, fo, pr, rs, fs, rc, mh)) (hs : qs_rem T n e + s ≤ 41) (hJ : ∀ (tT' wS' rL' sg' rC' gR' hd' lW' lv' oN' ur' cR' : Int32) (K' V' N' nx' ws' fo' pr' rs' fs' rc' mh' : Nat → Int32), qs_H T W A c (s + 1) ky vl (tT', wS', rL', sg', rC', gR', hd', lW', lv', oN', ur', cR', K', V', N', nx', ws', fo', pr', rs', fs', rc', mh') → J236 x11 (nI (s + 1)) tT' wS' rL' sg' rC' gR' hd' lW' lv' oN' ur' cR' K' V' N' nx' ws' fo' pr' rs' fs' rc' mh') :
    wL_law_397 post L xs J46 J236 (nI T) x3 x4 x6 x7 x8 x9 x10 x11 (nI s) (nI n) z0 kc ks tT wS rL sg rC gR hd lW lv oN ur cR K V N nx ws fo pr rs fs rc mh := by
  obtain ⟨_, e1, n1, nT, hf, hT, M⟩ := qs_mo I
  have t4 := ps_T4 hT
  have q0 : nI n - 1 = nI (n - 1) := ps_p1 n1
  have g4 : ∀ (tT' wS' rL' sg' rC' gR' hd' lW' lv' oN' ur' cR' : Int32) (K' V' N' nx' ws' fo' pr' rs' fs' rc' mh' : Nat → Int32), 2 ≤ n → qs_M T W A c (n - 1) ((f + T - 1) % T) (ps_pa T (n - 1) (T - 2)) ky vl (tT', wS', rL', sg', rC', gR', hd', lW', lv', oN', ur', cR', K', V', N', nx', ws', fo', pr', rs', fs', rc', mh') → wL_law_452 post L xs J46 J236 (nI T) x3 x4 x6 x7 x8 x9 x10 x11 (nI s) (nI n) kc ks tT' wS' rL' sg' rC' gR' hd' lW' lv' oN' ur' cR' K' V' N' nx' ws' fo' pr' rs' fs' rc' mh' := by
    intro tT' wS' rL' sg' rC' gR' hd' lW' lv' oN' ur' cR' K' V' N' nx' ws' fo' pr' rs' fs' rc' mh' n2 I'
    refine qs_levM I' (br_t q0.symm (qs_465M I' (hJ tT' wS' rL' sg' rC' gR' hd' lW' lv' oN' ur' cR' K' V' N' nx' ws' fo' pr' rs' fs' rc' mh' (Or.inl ⟨_, _, _, I', ?_⟩))))
    rw [qs_remP (by omega)]
    unfold qs_rem at hs
    omega
  have g5 : ∀ (tT' wS' rL' sg' rC' gR' hd' lW' lv' oN' ur' cR' : Int32) (K' V' N' nx' ws' fo' pr' rs' fs' rc' mh' : Nat → Int32), n = 1 → qs_S T W A c f ky vl (-1) (tT', wS', rL', sg', rC', gR', hd', lW', lv', oN', ur', cR', K', V', N', nx', ws', fo', pr', rs', fs', rc', mh') → wL_law_452 post L xs J46 J236 (nI T) x3 x4 x6 x7 x8 x9 x10 x11 (nI s) (nI n) kc ks tT' wS' rL' sg' rC' gR' hd' lW' lv' oN' ur' cR' K' V' N' nx' ws' fo' pr' rs' fs' rc' mh' := by
    intro tT' wS' rL' sg' rC' gR' hd' lW' lv' oN' ur' cR' K' V' N' nx' ws' fo' pr' rs' fs' rc' mh' n2 I'
    refine qs_levS I' (br_t ?_ (qs_465S I' (hJ tT' wS' rL' sg' rC' gR' hd' lW' lv' oN' ur' cR' K' V' N' nx' ws' fo' pr' rs' fs' rc' mh' (Or.inr ⟨_, _, I'⟩))))
    rw [q0, n2]; rfl
  refine br_c (fun z => ?_) (fun z => ?_)
  · refine M _ (fun u' I' e2 => ?_) (fun u' ee n2 I' => ?_) (fun u' ee n2 I' => ?_)
    · obtain ⟨tT', wS', rL', sg', rC', gR', hd', lW', lv', oN', ur', cR', K', V', N', nx', ws', fo', pr', rs', fs', rc', mh'⟩ := u'
      refine br_t z (br_t rfl (qs_levM I' (br_t rfl (nm_r (nI_1 s) (hJ tT' wS' rL' sg' rC' gR' hd' lW' lv' oN' ur' cR' K' V' N' nx' ws' fo' pr' rs' fs' rc' mh' (Or.inl ⟨_, _, _, I', ?_⟩))))))
      unfold qs_rem at hs ⊢
      omega
    · obtain ⟨tT', wS', rL', sg', rC', gR', hd', lW', lv', oN', ur', cR', K', V', N', nx', ws', fo', pr', rs', fs', rc', mh'⟩ := u'
      exact br_t z (br_f (by decide) (br_t rfl (g4 tT' wS' rL' sg' rC' gR' hd' lW' lv' oN' ur' cR' K' V' N' nx' ws' fo' pr' rs' fs' rc' mh' n2 I')))
    · obtain ⟨tT', wS', rL', sg', rC', gR', hd', lW', lv', oN', ur', cR', K', V', N', nx', ws', fo', pr', rs', fs', rc', mh'⟩ := u'
      exact br_t z (br_f (by decide) (br_f (by decide) (br_t rfl (g5 tT' wS' rL' sg' rC' gR' hd' lW' lv' oN' ur' cR' K' V' N' nx' ws' fo' pr' rs' fs' rc' mh' n2 I'))))
  · refine qs_mp I (fun u' n2 I' => ?_) (fun u' n2 I' => ?_)
    · obtain ⟨tT', wS', rL', sg', rC', gR', hd', lW', lv', oN', ur', cR', K', V', N', nx', ws', fo', pr', rs', fs', rc', mh'⟩ := u'
      exact br_f z (br_t rfl (g4 tT' wS' rL' sg' rC' gR' hd' lW' lv' oN' ur' cR' K' V' N' nx' ws' fo' pr' rs' fs' rc' mh' n2 I'))
    · obtain ⟨tT', wS', rL', sg', rC', gR', hd', lW', lv', oN', ur', cR', K', V', N', nx', ws', fo', pr', rs', fs', rc', mh'⟩ := u'
      exact br_f z (br_f (by decide) (br_t rfl (g5 tT' wS' rL' sg' rC' gR' hd' lW' lv' oN' ur' cR' K' V' N' nx' ws' fo' pr' rs' fs' rc' mh' n2 I')))
theorem qs_328M {post : Int32 → Prop} {L : Nat} {xs : Nat → Int32} {J46 : Int32 → Int32 → Int32 → Int32 → Int32 → Int32 → Int32 → Int32 → Int32 → Int32 → Int32 → Int32 → Int32 → (Nat → Int32) → (Nat → Int32) → (Nat → Int32) → (Nat → Int32) → (Nat → Int32) → (Nat → Int32) → (Nat → Int32) → (Nat → Int32) → (Nat → Int32) → (Nat → Int32) → (Nat → Int32) → Prop} {J236 : Int32 → Int32 → Int32 → Int32 → Int32 → Int32 → Int32 → Int32 → Int32 → Int32 → Int32 → Int32 → Int32 → Int32 → (Nat → Int32) → (Nat → Int32) → (Nat → Int32) → (Nat → Int32) → (Nat → Int32) → (Nat → Int32) → (Nat → Int32) → (Nat → Int32) → (Nat → Int32) → (Nat → Int32) → (Nat → Int32) → Prop} {x3 x4 x6 x7 x8 x9 x10 x11 : Int32} {kc ks T W A c n f e s : Nat} {ky vl : Nat → Int32} {tT wS rL sg rC gR hd lW lv oN ur cR : Int32} {K V N nx ws fo pr rs fs rc mh : Nat → Int32} (s1 : 1 ≤ s) (s2 : s < 1000)
    (I : qs_M T W A c n f e ky vl (tT, wS, rL, sg, rC, gR, hd, lW, lv, oN, ur, cR, K, V, N, nx, ws, fo, pr, rs, fs, rc, mh)) (hs : qs_rem T n e + s ≤ 41) (hJ : ∀ (tT' wS' rL' sg' rC' gR' hd' lW' lv' oN' ur' cR' : Int32) (K' V' N' nx' ws' fo' pr' rs' fs' rc' mh' : Nat → Int32), qs_H T W A c (s + 1) ky vl (tT', wS', rL', sg', rC', gR', hd', lW', lv', oN', ur', cR', K', V', N', nx', ws', fo', pr', rs', fs', rc', mh') → J236 x11 (nI (s + 1)) tT' wS' rL' sg' rC' gR' hd' lW' lv' oN' ur' cR' K' V' N' nx' ws' fo' pr' rs' fs' rc' mh') :
    wL_law_328 post L xs J46 J236 (nI T) x3 x4 x6 x7 x8 x9 x10 x11 (nI s) kc ks tT wS rL sg rC gR hd lW lv oN ur cR K V N nx ws fo pr rs fs rc mh := by
  have S := fun (z0 : Int32) => qs_397 (post := post) (L := L) (xs := xs) (J46 := J46) (J236 := J236) (x3 := x3) (x4 := x4) (x6 := x6) (x7 := x7) (x8 := x8) (x9 := x9) (x10 := x10) (x11 := x11) (z0 := z0) (kc := kc) (ks := ks) I hs hJ
  refine qs_levM I (br_f (nI_ne0 (by omega) (by omega)) (nm_e (br_c (fun _ => S 1) (fun _ => br_c (fun _ => S 0) (fun _ => qs_m (br_c (fun _ => S 1) (fun _ => S 0)))))))
theorem qs_262M {post : Int32 → Prop} {L : Nat} {xs : Nat → Int32} {J46 : Int32 → Int32 → Int32 → Int32 → Int32 → Int32 → Int32 → Int32 → Int32 → Int32 → Int32 → Int32 → Int32 → (Nat → Int32) → (Nat → Int32) → (Nat → Int32) → (Nat → Int32) → (Nat → Int32) → (Nat → Int32) → (Nat → Int32) → (Nat → Int32) → (Nat → Int32) → (Nat → Int32) → (Nat → Int32) → Prop} {J236 : Int32 → Int32 → Int32 → Int32 → Int32 → Int32 → Int32 → Int32 → Int32 → Int32 → Int32 → Int32 → Int32 → Int32 → (Nat → Int32) → (Nat → Int32) → (Nat → Int32) → (Nat → Int32) → (Nat → Int32) → (Nat → Int32) → (Nat → Int32) → (Nat → Int32) → (Nat → Int32) → (Nat → Int32) → (Nat → Int32) → Prop} {x3 x7 x8 x9 x10 md : Int32} {kc ks T W A c n f e s B : Nat} {ky vl : Nat → Int32} {tT wS rL sg rC gR hd lW lv oN ur cR : Int32} {K V N nx ws fo pr rs fs rc mh : Nat → Int32} (hL : L ≤ 260) (hB : B ≤ 1000) (hc : c ≤ 64) (s1 : 1 ≤ s) (s2 : s < 1000)
    (I : qs_M T W A c n f e ky vl (tT, wS, rL, sg, rC, gR, hd, lW, lv, oN, ur, cR, K, V, N, nx, ws, fo, pr, rs, fs, rc, mh)) (hs : qs_rem T n e + s ≤ 41) (hJ : ∀ (tT' wS' rL' sg' rC' gR' hd' lW' lv' oN' ur' cR' : Int32) (K' V' N' nx' ws' fo' pr' rs' fs' rc' mh' : Nat → Int32), qs_H T W A c (s + 1) ky vl (tT', wS', rL', sg', rC', gR', hd', lW', lv', oN', ur', cR', K', V', N', nx', ws', fo', pr', rs', fs', rc', mh') → J236 (nI c) (nI (s + 1)) tT' wS' rL' sg' rC' gR' hd' lW' lv' oN' ur' cR' K' V' N' nx' ws' fo' pr' rs' fs' rc' mh') :
    wL_law_262 post L xs J46 J236 (nI T) x3 (nI B) md x7 x8 x9 x10 (nI c) (nI s) kc ks tT wS rL sg rC gR hd lW lv oN ur cR K V N nx ws fo pr rs fs rc mh := by
  have E : wL_law_328 post L xs J46 J236 (nI T) x3 (nI B) md x7 x8 x9 x10 (nI c) (nI s) kc ks tT wS rL sg rC gR hd lW lv oN ur cR K V N nx ws fo pr rs fs rc mh := qs_328M s1 s2 I hs hJ
  have E2 : wL_law_318 post L xs J46 J236 (nI T) x3 (nI B) md x7 x8 x9 x10 (nI c) (nI s) kc ks tT wS rL sg rC gR hd lW lv oN ur cR K V N nx ws fo pr rs fs rc mh := qs_readM I (qs_rewM I E)
  refine br_c (fun _ => E) (fun _ => br_f (nI_nle (by omega) (by omega)) (qs_c hL (by omega) (qs_ix B c) (br_c (fun _ => E2) (fun _ => qs_k (qs_v (qs_putM I (br_f (by decide) E2)))))))
theorem qs_557 {post : Int32 → Prop} {L : Nat} {xs : Nat → Int32} {J46 : Int32 → Int32 → Int32 → Int32 → Int32 → Int32 → Int32 → Int32 → Int32 → Int32 → Int32 → Int32 → Int32 → (Nat → Int32) → (Nat → Int32) → (Nat → Int32) → (Nat → Int32) → (Nat → Int32) → (Nat → Int32) → (Nat → Int32) → (Nat → Int32) → (Nat → Int32) → (Nat → Int32) → (Nat → Int32) → Prop} {x1 x7 x9 md : Int32} {kc ks T W A c B r : Nat} {tT wS rL sg rC gR hd lW lv oN ur cR : Int32} {K V N nx ws fo pr rs fs rc mh : Nat → Int32} (hL : L ≤ 260) (hB : B ≤ 1000) (hc : c ≤ 64)
    (hJ : ∀ (tT' wS' rL' sg' rC' gR' hd' lW' lv' oN' ur' cR' : Int32) (K' V' N' nx' ws' fo' pr' rs' fs' rc' mh' : Nat → Int32), (∀ ky' vl', qs_F T W A 0 ky' vl' (tT', wS', rL', sg', rC', gR', hd', lW', lv', oN', ur', cR', K', V', N', nx', ws', fo', pr', rs', fs', rc', mh')) → J46 (nI (r + 1)) tT' wS' rL' sg' rC' gR' hd' lW' lv' oN' ur' cR' K' V' N' nx' ws' fo' pr' rs' fs' rc' mh') (I : qs_Q T W A c (qs_ky L xs B md) (qs_vl L xs B) (tT, wS, rL, sg, rC, gR, hd, lW, lv, oN, ur, cR, K, V, N, nx, ws, fo, pr, rs, fs, rc, mh))
    (h9 : x9 ≤ 40 ∨ ∃ f la, qs_S T W A c f (qs_ky L xs B md) (qs_vl L xs B) la (tT, wS, rL, sg, rC, gR, hd, lW, lv, oN, ur, cR, K, V, N, nx, ws, fo, pr, rs, fs, rc, mh)) : wL_law_557 post L xs J46 x1 (nI r) (nI B) md x7 x9 (nI c) kc ks tT wS rL sg rC gR hd lW lv oN ur cR K V N nx ws fo pr rs fs rc mh := by
  have E := qs_576 (post := post) (x1 := x1) (x7 := x7) (md := md) (kc := kc) (ks := ks) hL hB hc hJ 3 0 tT wS rL sg rC gR hd lW lv oN ur cR K V N nx ws fo pr rs fs rc mh (by omega) (by omega) I
  rcases h9 with h9 | ⟨f, la, S⟩
  · exact br_t h9 (Exists.intro 3 E)
  · exact br_c (fun _ => Exists.intro 3 E) (fun _ => qs_levS S (br_t rfl (Exists.intro 3 E)))
/-- the number of steps allowed: 99, or at most 7 -/
def qs_st (x9 : Int32) : Prop := x9 = 99 ∨ ∃ j : Nat, j ≤ 7 ∧ x9 = nI j
theorem qs_st9 {x9 : Int32} (h : qs_st x9) {s : Nat} (hs : s ≤ 41) (le : x9 ≤ nI s) : x9 ≤ 40 := by
  rcases h with h | ⟨j, hj, h⟩
  · subst h
    exact absurd le (nI_ge (b := 99) (by omega) (by decide))
  · subst h
    exact nI_le (b := 40) (by omega) (by decide)
theorem qs_236 {post : Int32 → Prop} {L : Nat} {xs : Nat → Int32} {J46 : Int32 → Int32 → Int32 → Int32 → Int32 → Int32 → Int32 → Int32 → Int32 → Int32 → Int32 → Int32 → Int32 → (Nat → Int32) → (Nat → Int32) → (Nat → Int32) → (Nat → Int32) → (Nat → Int32) → (Nat → Int32) → (Nat → Int32) → (Nat → Int32) → (Nat → Int32) → (Nat → Int32) → (Nat → Int32) → Prop} {x7 x8 x9 x10 md : Int32} {kc ks T W A c B r : Nat} (hL : L ≤ 260) (hB : B ≤ 1000) (hc : c ≤ 64) (h9 : qs_st x9)
    (hJ : ∀ (tT' wS' rL' sg' rC' gR' hd' lW' lv' oN' ur' cR' : Int32) (K' V' N' nx' ws' fo' pr' rs' fs' rc' mh' : Nat → Int32), (∀ ky' vl', qs_F T W A 0 ky' vl' (tT', wS', rL', sg', rC', gR', hd', lW', lv', oN', ur', cR', K', V', N', nx', ws', fo', pr', rs', fs', rc', mh')) → J46 (nI (r + 1)) tT' wS' rL' sg' rC' gR' hd' lW' lv' oN' ur' cR' K' V' N' nx' ws' fo' pr' rs' fs' rc' mh') :
    ∀ (m s : Nat) (tT wS rL sg rC gR hd lW lv oN ur cR : Int32) (K V N nx ws fo pr rs fs rc mh : Nat → Int32), 1 ≤ s → s ≤ 41 → 41 - s < m → qs_H T W A c s (qs_ky L xs B md) (qs_vl L xs B) (tT, wS, rL, sg, rC, gR, hd, lW, lv, oN, ur, cR, K, V, N, nx, ws, fo, pr, rs, fs, rc, mh) → wL_law_236 post L xs J46 (nI T) (nI r) (nI B) md x7 x8 x9 x10 kc ks m (nI c) (nI s) tT wS rL sg rC gR hd lW lv oN ur cR K V N nx ws fo pr rs fs rc mh := by
  intro m
  induction m with
  | zero => intro s tT wS rL sg rC gR hd lW lv oN ur cR K V N nx ws fo pr rs fs rc mh _ _ h; omega
  | succ m ih =>
    intro s tT wS rL sg rC gR hd lW lv oN ur cR K V N nx ws fo pr rs fs rc mh s1 s41 hm H
    rcases H with ⟨n, f, e, I, hs⟩ | ⟨f, la, I⟩
    · have QQ : qs_Q T W A c (qs_ky L xs B md) (qs_vl L xs B) (tT, wS, rL, sg, rC, gR, hd, lW, lv, oN, ur, cR, K, V, N, nx, ws, fo, pr, rs, fs, rc, mh) := Or.inr (Or.inl ⟨n, f, e, I⟩)
      obtain ⟨_, e1, n1, nT, hf, hT, _⟩ := qs_mo I
      have se : s ≤ 40 := by unfold qs_rem at hs; omega
      refine br_f (nI_nlt (a := 40) (b := s) (by omega) (by decide)) (br_c (fun z => qs_557 hL hB hc hJ QQ (Or.inl (qs_st9 h9 s41 z))) (fun _ => br_f (nI_ne0 (by omega) (by omega)) (qs_levM I (br_f (nI_nle (by omega) (by omega)) ?_))))
      exact qs_262M hL hB hc s1 (by omega) I hs (fun tT' wS' rL' sg' rC' gR' hd' lW' lv' oN' ur' cR' K' V' N' nx' ws' fo' pr' rs' fs' rc' mh' H' => ih (s + 1) tT' wS' rL' sg' rC' gR' hd' lW' lv' oN' ur' cR' K' V' N' nx' ws' fo' pr' rs' fs' rc' mh' (by omega) (by omega) (by omega) H')
    · have QQ : qs_Q T W A c (qs_ky L xs B md) (qs_vl L xs B) (tT, wS, rL, sg, rC, gR, hd, lW, lv, oN, ur, cR, K, V, N, nx, ws, fo, pr, rs, fs, rc, mh) := Or.inr (Or.inr ⟨f, la, I⟩)
      have E : wL_law_557 post L xs J46 (nI T) (nI r) (nI B) md x7 x9 (nI c) kc ks tT wS rL sg rC gR hd lW lv oN ur cR K V N nx ws fo pr rs fs rc mh := qs_557 hL hB hc hJ QQ (Or.inr ⟨f, la, I⟩)
      exact br_c (fun _ => E) (fun _ => br_c (fun _ => E) (fun _ => br_f (nI_ne0 (by omega) (by omega)) (qs_levS I (br_t (by decide) E))))
/-- the first step: finish -/
theorem qs_236F {post : Int32 → Prop} {L : Nat} {xs : Nat → Int32} {J46 : Int32 → Int32 → Int32 → Int32 → Int32 → Int32 → Int32 → Int32 → Int32 → Int32 → Int32 → Int32 → Int32 → (Nat → Int32) → (Nat → Int32) → (Nat → Int32) → (Nat → Int32) → (Nat → Int32) → (Nat → Int32) → (Nat → Int32) → (Nat → Int32) → (Nat → Int32) → (Nat → Int32) → (Nat → Int32) → Prop} {x7 x8 x9 x10 md : Int32} {kc ks T W A c B r : Nat} {tT wS rL sg rC gR hd lW lv oN ur cR : Int32} {K V N nx ws fo pr rs fs rc mh : Nat → Int32} (hL : L ≤ 260) (hB : B ≤ 1000) (hc : c ≤ 64) (h9 : qs_st x9)
    (hJ : ∀ (tT' wS' rL' sg' rC' gR' hd' lW' lv' oN' ur' cR' : Int32) (K' V' N' nx' ws' fo' pr' rs' fs' rc' mh' : Nat → Int32), (∀ ky' vl', qs_F T W A 0 ky' vl' (tT', wS', rL', sg', rC', gR', hd', lW', lv', oN', ur', cR', K', V', N', nx', ws', fo', pr', rs', fs', rc', mh')) → J46 (nI (r + 1)) tT' wS' rL' sg' rC' gR' hd' lW' lv' oN' ur' cR' K' V' N' nx' ws' fo' pr' rs' fs' rc' mh') (I : qs_F T W A c (qs_ky L xs B md) (qs_vl L xs B) (tT, wS, rL, sg, rC, gR, hd, lW, lv, oN, ur, cR, K, V, N, nx, ws, fo, pr, rs, fs, rc, mh)) :
    wL_law_236 post L xs J46 (nI T) (nI r) (nI B) md x7 x8 x9 x10 kc ks 42 (nI c) 0 tT wS rL sg rC gR hd lW lv oN ur cR K V N nx ws fo pr rs fs rc mh := by
  have I2 := I
  obtain ⟨R, h, rn, w, wr, lW', K', V', N', nx', ws', fo', pr', rs', fs', rc', mh', ins', HC, HF, HK, _⟩ := I2
  have hT := HC.1
  have nxt : ∀ (tT' wS' rL' sg' rC' gR' hd' lW' lv' oN' ur' cR' : Int32) (K' V' N' nx' ws' fo' pr' rs' fs' rc' mh' : Nat → Int32), qs_H T W A c 1 (qs_ky L xs B md) (qs_vl L xs B) (tT', wS', rL', sg', rC', gR', hd', lW', lv', oN', ur', cR', K', V', N', nx', ws', fo', pr', rs', fs', rc', mh') → wL_law_236 post L xs J46 (nI T) (nI r) (nI B) md x7 x8 x9 x10 kc ks 41 (nI c) (nI (0 + 1)) tT' wS' rL' sg' rC' gR' hd' lW' lv' oN' ur' cR' K' V' N' nx' ws' fo' pr' rs' fs' rc' mh' := by
    intro tT' wS' rL' sg' rC' gR' hd' lW' lv' oN' ur' cR' K' V' N' nx' ws' fo' pr' rs' fs' rc' mh' H
    exact qs_236 hL hB hc h9 hJ 41 1 tT' wS' rL' sg' rC' gR' hd' lW' lv' oN' ur' cR' K' V' N' nx' ws' fo' pr' rs' fs' rc' mh' (by omega) (by omega) (by omega) H
  have E : wL_law_328 post L xs J46 (wL_law_236 post L xs J46 (nI T) (nI r) (nI B) md x7 x8 x9 x10 kc ks 41) (nI T) (nI r) (nI B) md x7 x8 x9 x10 (nI c) 0 kc ks tT wS rL sg rC gR hd lW lv oN ur cR K V N nx ws fo pr rs fs rc mh := by
    refine qs_levF I (br_t rfl (qs_finish I (fun n u' n1 nT I' => ?_) (fun u' I' => ?_)))
    · obtain ⟨tT', wS', rL', sg', rC', gR', hd', lW', lv', oN', ur', cR', K', V', N', nx', ws', fo', pr', rs', fs', rc', mh'⟩ := u'
      refine br_t rfl (qs_465M (s := 0) I' (nxt tT' wS' rL' sg' rC' gR' hd' lW' lv' oN' ur' cR' K' V' N' nx' ws' fo' pr' rs' fs' rc' mh' (Or.inl ⟨n, _, _, I', ?_⟩)))
      rw [qs_remP n1]
      have b := qs_mgb hT nT
      omega
    · obtain ⟨tT', wS', rL', sg', rC', gR', hd', lW', lv', oN', ur', cR', K', V', N', nx', ws', fo', pr', rs', fs', rc', mh'⟩ := u'
      exact br_f (by decide) (br_t rfl (qs_465S (s := 0) I' (nxt tT' wS' rL' sg' rC' gR' hd' lW' lv' oN' ur' cR' K' V' N' nx' ws' fo' pr' rs' fs' rc' mh' (Or.inr ⟨_, _, I'⟩))))
  refine br_f (by decide) (br_c (fun z => qs_557 hL hB hc hJ (Or.inl I) (Or.inl (qs_st9 h9 (s := 0) (by omega) z))) (fun _ => br_t rfl (br_c (fun _ => E) (fun _ => br_t (by decide) E))))
/-! feeding -/
theorem qs_157 {post : Int32 → Prop} {L : Nat} {xs : Nat → Int32} {J46 : Int32 → Int32 → Int32 → Int32 → Int32 → Int32 → Int32 → Int32 → Int32 → Int32 → Int32 → Int32 → Int32 → (Nat → Int32) → (Nat → Int32) → (Nat → Int32) → (Nat → Int32) → (Nat → Int32) → (Nat → Int32) → (Nat → Int32) → (Nat → Int32) → (Nat → Int32) → (Nat → Int32) → (Nat → Int32) → Prop} {x7 x8 x9 x10 md : Int32} {kc ks T W A B r t : Nat} (hL : L ≤ 260) (hB : B ≤ 1000) (ht : t ≤ 64) (h9 : qs_st x9)
    (hJ : ∀ (tT' wS' rL' sg' rC' gR' hd' lW' lv' oN' ur' cR' : Int32) (K' V' N' nx' ws' fo' pr' rs' fs' rc' mh' : Nat → Int32), (∀ ky' vl', qs_F T W A 0 ky' vl' (tT', wS', rL', sg', rC', gR', hd', lW', lv', oN', ur', cR', K', V', N', nx', ws', fo', pr', rs', fs', rc', mh')) → J46 (nI (r + 1)) tT' wS' rL' sg' rC' gR' hd' lW' lv' oN' ur' cR' K' V' N' nx' ws' fo' pr' rs' fs' rc' mh') :
    ∀ (m c i : Nat) (tT wS rL sg rC gR hd lW lv oN ur cR : Int32) (K V N nx ws fo pr rs fs rc mh : Nat → Int32), i ≤ t → t - i < m → qs_F T W A c (qs_ky L xs B md) (qs_vl L xs B) (tT, wS, rL, sg, rC, gR, hd, lW, lv, oN, ur, cR, K, V, N, nx, ws, fo, pr, rs, fs, rc, mh) → wL_law_157 post L xs J46 (nI T) (nI r) (nI B) (nI t) md x7 x8 x9 x10 kc ks m (nI c) (nI i) tT wS rL sg rC gR hd lW lv oN ur cR K V N nx ws fo pr rs fs rc mh := by
  intro m
  induction m with
  | zero => intro c i tT wS rL sg rC gR hd lW lv oN ur cR K V N nx ws fo pr rs fs rc mh _ h; omega
  | succ m ih =>
    intro c i tT wS rL sg rC gR hd lW lv oN ur cR K V N nx ws fo pr rs fs rc mh hi hm I
    have I2 := I
    obtain ⟨R, h, rn, w, wr, lW', K', V', N', nx', ws', fo', pr', rs', fs', rc', mh', ins', HC, HF, HK, _⟩ := I2
    have hh := ps_hN HC
    refine ps_if (d := t ≤ i) (nI_leI (by omega) (by omega)) (fun _ => Exists.intro 42 (qs_236F hL hB hh.1 h9 hJ I)) (fun z => ?_)
    have E : wL_law_188 post L xs J46 (wL_law_157 post L xs J46 (nI T) (nI r) (nI B) (nI t) md x7 x8 x9 x10 kc ks m) (nI T) (nI r) (nI B) (nI t) md x7 x8 x9 x10 (nI c) (nI i) kc ks tT wS rL sg rC gR hd lW lv oN ur cR K V N nx ws fo pr rs fs rc mh := by
      refine qs_c hL (by omega) (qs_ix B c) (qs_k (qs_v (qs_put I rfl rfl (fun _ u' I' => ?_) (fun _ => ?_))))
      · obtain ⟨tT', wS', rL', sg', rC', gR', hd', lW', lv', oN', ur', cR', K', V', N', nx', ws', fo', pr', rs', fs', rc', mh'⟩ := u'
        exact br_t rfl (nm_r (nI_1 c) (nm_r (nI_1 i) (ih (c + 1) (i + 1) tT' wS' rL' sg' rC' gR' hd' lW' lv' oN' ur' cR' K' V' N' nx' ws' fo' pr' rs' fs' rc' mh' (by omega) (by omega) I')))
      · exact br_f (by decide) (nm_r (nI_1 i) (ih c (i + 1) tT wS rL sg rC gR hd lW lv oN ur cR K V N nx ws fo pr rs fs rc mh (by omega) (by omega) I))
    exact br_c (fun _ => E) (fun _ => br_c (fun _ => qs_readF I (qs_rewF I E)) (fun _ => E))
theorem qs_134 {post : Int32 → Prop} {L : Nat} {xs : Nat → Int32} {J46 : Int32 → Int32 → Int32 → Int32 → Int32 → Int32 → Int32 → Int32 → Int32 → Int32 → Int32 → Int32 → Int32 → (Nat → Int32) → (Nat → Int32) → (Nat → Int32) → (Nat → Int32) → (Nat → Int32) → (Nat → Int32) → (Nat → Int32) → (Nat → Int32) → (Nat → Int32) → (Nat → Int32) → (Nat → Int32) → Prop} {x7 x8 x9 md : Int32} {kc ks T W A B r t : Nat} {tT wS rL sg rC gR hd lW lv oN ur cR : Int32} {K V N nx ws fo pr rs fs rc mh : Nat → Int32} (hL : L ≤ 260) (hB : B ≤ 1000) (ht : t ≤ 64) (h9 : qs_st x9)
    (hJ : ∀ (tT' wS' rL' sg' rC' gR' hd' lW' lv' oN' ur' cR' : Int32) (K' V' N' nx' ws' fo' pr' rs' fs' rc' mh' : Nat → Int32), (∀ ky' vl', qs_F T W A 0 ky' vl' (tT', wS', rL', sg', rC', gR', hd', lW', lv', oN', ur', cR', K', V', N', nx', ws', fo', pr', rs', fs', rc', mh')) → J46 (nI (r + 1)) tT' wS' rL' sg' rC' gR' hd' lW' lv' oN' ur' cR' K' V' N' nx' ws' fo' pr' rs' fs' rc' mh') (I : qs_F T W A 0 (qs_ky L xs B md) (qs_vl L xs B) (tT, wS, rL, sg, rC, gR, hd, lW, lv, oN, ur, cR, K, V, N, nx, ws, fo, pr, rs, fs, rc, mh)) :
    wL_law_134 post L xs J46 (nI T) (nI r) (nI B) (nI t) md x7 x8 x9 kc ks tT wS rL sg rC gR hd lW lv oN ur cR K V N nx ws fo pr rs fs rc mh := by
  refine br_c (fun _ => Exists.intro (t + 1) (qs_157 hL hB ht h9 hJ (t + 1) 0 0 tT wS rL sg rC gR hd lW lv oN ur cR K V N nx ws fo pr rs fs rc mh (by omega) (by omega) I)) (fun _ => Exists.intro (t + 1) (qs_157 hL hB ht h9 hJ (t + 1) 0 0 tT wS rL sg rC gR hd lW lv oN ur cR K V N nx ws fo pr rs fs rc mh (by omega) (by omega) I))
theorem qs_46 {post : Int32 → Prop} {L : Nat} {xs : Nat → Int32} {kc ks T W A : Nat} (hL : L ≤ 260) (hp : post 1) :
    ∀ (m r : Nat) (tT wS rL sg rC gR hd lW lv oN ur cR : Int32) (K V N nx ws fo pr rs fs rc mh : Nat → Int32), r ≤ 3 → 3 - r < m → (∀ ky vl, qs_F T W A 0 ky vl (tT, wS, rL, sg, rC, gR, hd, lW, lv, oN, ur, cR, K, V, N, nx, ws, fo, pr, rs, fs, rc, mh)) → wL_law_46 post L xs (nI T) kc ks m (nI r) tT wS rL sg rC gR hd lW lv oN ur cR K V N nx ws fo pr rs fs rc mh := by
  intro m
  induction m with
  | zero => intro r tT wS rL sg rC gR hd lW lv oN ur cR K V N nx ws fo pr rs fs rc mh _ h; omega
  | succ m ih =>
    intro r tT wS rL sg rC gR hd lW lv oN ur cR K V N nx ws fo pr rs fs rc mh hr hm I
    refine ps_if (d := 3 ≤ r) (nI_leI (a := 3) (by omega) (by omega)) (fun _ => hp) (fun z => ?_)
    have eB : 3 + 68 * nI r = nI (3 + 68 * r) := by
      have h1 : (68 : Int32) * nI r = nI (68 * r) := pk_mul 68 r
      have h2 : (3 : Int32) + nI (68 * r) = nI (3 + 68 * r) := nI_add 3 (68 * r)
      rw [h1, h2]
    refine nm_r eB ?_
    have hB : 3 + 68 * r ≤ 1000 := by omega
    generalize hBe : 3 + 68 * r = B at hB ⊢
    refine qs_c hL (by omega) rfl ?_
    obtain ⟨j, hj, M⟩ := qs_md (qs_cell L xs B) (m := 65) (by omega) (by omega)
    refine M _ (nm_r (pk_sub (a := 64) (b := j) (by omega)) ?_)
    refine qs_c hL (by omega) (nI_add B 1) ?_
    obtain ⟨j2, hj2, M2⟩ := qs_md ((qs_cell L xs (B + 1) &&& 65535) + nI r) (m := 5) (by omega) (by omega)
    refine M2 _ ?_
    refine qs_c hL (by omega) (nI_add B 2) ?_
    refine qs_c hL (by omega) (nI_add B 3) ?_
    have nxt : ∀ (tT' wS' rL' sg' rC' gR' hd' lW' lv' oN' ur' cR' : Int32) (K' V' N' nx' ws' fo' pr' rs' fs' rc' mh' : Nat → Int32), (∀ ky' vl', qs_F T W A 0 ky' vl' (tT', wS', rL', sg', rC', gR', hd', lW', lv', oN', ur', cR', K', V', N', nx', ws', fo', pr', rs', fs', rc', mh')) → wL_law_46 post L xs (nI T) kc ks m (nI (r + 1)) tT' wS' rL' sg' rC' gR' hd' lW' lv' oN' ur' cR' K' V' N' nx' ws' fo' pr' rs' fs' rc' mh' := fun tT' wS' rL' sg' rC' gR' hd' lW' lv' oN' ur' cR' K' V' N' nx' ws' fo' pr' rs' fs' rc' mh' I' => ih (r + 1) tT' wS' rL' sg' rC' gR' hd' lW' lv' oN' ur' cR' K' V' N' nx' ws' fo' pr' rs' fs' rc' mh' (by omega) (by omega) I'
    refine br_c (fun _ => ?_) (fun _ => ?_)
    · obtain ⟨p, hp2, ep⟩ := pk_andE (((qs_cell L xs (B + 2)).toUInt32 >>> ((2 : Int32).toUInt32 &&& Int32.toUInt32 31)).toInt32) (m := 7) 3 (by decide)
      exact qs_134 hL hB (by omega) (Or.inr ⟨p, by omega, ep⟩) nxt (I _ _)
    · exact qs_134 hL hB (by omega) (Or.inl rfl) nxt (I _ _)
theorem qs_cl {post : Int32 → Prop} {v a b : Nat} (h1 : a ≤ v) (h2 : v ≤ b) (hb : b < 1000) (h : post (nI v)) : wpX_clamp post () (nI v) (nI a) (nI b) :=
  br_t (nI_le h1 (by omega)) (br_t (nI_le h2 (by omega)) h)
theorem i_vc (xs : Nat → Int32) (L : Nat) (hL : L ≤ 260) : wpL_law (fun r => r = 1) L xs := by
  refine qs_c hL (k := 0) (by omega) rfl ?_
  obtain ⟨t, ht, et⟩ := pk_andE (qs_cell L xs 0) (m := 1) 1 (by decide)
  have eT : 3 + (qs_cell L xs 0 &&& 1) = nI (3 + t) := by
    rw [et]; exact nI_add 3 t
  refine nm_r eT ?_
  refine qs_c hL (k := 1) (by omega) rfl ?_
  obtain ⟨j, hj, M⟩ := qs_md (qs_cell L xs 1) (m := 7) (by omega) (by omega)
  refine M _ ?_
  refine qs_c hL (k := 2) (by omega) rfl ?_
  obtain ⟨j2, hj2, M2⟩ := qs_md (qs_cell L xs 2) (m := 57) (by omega) (by omega)
  refine M2 _ ?_
  have hT : ps_T34 (3 + t) := by unfold ps_T34; omega
  have eW : 2 + nI j = nI (2 + j) := nI_add 2 j
  have eA : 64 - nI j2 = nI (64 - j2) := pk_sub (a := 64) (by omega)
  rw [eW, eA]
  refine ⟨11, 472, by omega, by omega, ?_⟩
  refine ⟨by omega, by omega, by omega, by omega, by omega, by omega, by omega, by omega, by omega, by omega, by omega, by omega, by omega, by omega, by omega, by omega, by omega, by omega, by omega, by omega, by omega, by omega, ?_⟩
  refine qs_cl (a := 3) (b := 4) (by omega) (by omega) (by omega) (qs_cl (a := 2) (b := 8) (by omega) (by omega) (by omega) (qs_cl (a := 8) (b := 64) (by omega) (by omega) (by omega) ?_))
  refine Exists.intro 4 (qs_46 (post := fun r => r = 1) (T := 3 + t) (W := 2 + j) (A := 64 - j2) hL rfl 4 0 _ _ _ _ _ _ _ _ _ _ _ _ _ _ _ _ _ _ _ _ _ _ _ (by omega) (by omega) (fun ky vl => ?_))
  exact qs_fresh hT (by omega) (by omega) (by omega) (by omega) ky vl
