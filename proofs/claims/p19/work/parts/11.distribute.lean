/-! the runs are spread over the tapes. -/
theorem px_etl {tT wS rL sg rC gR hd lW lv oN ur cR : Int32} {K V N nx ws fo pr rs mh : Nat → Int32} {post : St2 → Prop} (hp : ∀ fs rc : Nat → Int32, (∀ t, t < 4 → fs t = 0 ∧ rc t = 0) → post (tT, wS, rL, sg, rC, gR, hd, lW, lv, oN, ur, cR, K, V, N, nx, ws, fo, pr, rs, fs, rc, mh)) :
    ∀ m i (fs rc : Nat → Int32), i ≤ 4 → 4 - i < m → (∀ t, t < i → fs t = 0 ∧ rc t = 0) → wX_emptyTapes_2 post tT wS rL sg rC gR hd lW lv oN ur cR m (nI i) K V N nx ws fo pr rs fs rc mh := by
  intro m
  induction m with
  | zero => intro i fs rc _ h; omega
  | succ m ih =>
    intro i fs rc hi hm h
    refine ps_if (d := 4 ≤ i) (nI_leI (a := 4) (by omega) (by omega)) (fun q => hp fs rc (fun t ht => h t (by omega))) (fun q => ?_)
    have ei : (nI i).toNatClampNeg = i := nI_clamp (by omega)
    have ii : vp_in (nI i) 4 := vp_in_nI (by omega) (by decide)
    refine And.intro ii (nm_r (e' := upd fs i 0) (by rw [ei]) (And.intro ii (nm_r (e' := upd rc i 0) (by rw [ei]) (nm_r (nI_1 i) (ih (i + 1) _ _ (by omega) (by omega) (fun t ht => ?_))))))
    by_cases e : t = i
    · rw [e]; exact ⟨pk_us, pk_us⟩
    · rw [pk_un e, pk_un e]; exact h t (by omega)
theorem px_et {tT wS rL sg rC gR hd lW lv oN ur cR : Int32} {K V N nx ws fo pr rs fs rc mh : Nat → Int32} {post : St2 → Prop} (hp : ∀ fs rc : Nat → Int32, (∀ t, t < 4 → fs t = 0 ∧ rc t = 0) → post (tT, wS, rL, sg, rC, gR, hd, lW, lv, oN, ur, cR, K, V, N, nx, ws, fo, pr, rs, fs, rc, mh)) : wpX_emptyTapes post (tT, wS, rL, sg, rC, gR, hd, lW, lv, oN, ur, cR, K, V, N, nx, ws, fo, pr, rs, fs, rc, mh) :=
  Exists.intro 5 (px_etl hp 5 0 fs rc (by omega) (by omega) (fun t h => absurd h (Nat.not_lt_zero t)))
theorem px_ap {tT wS rL sg rC gR hd lW lv oN ur cR : Int32} {K V N nx ws fo pr rs fs rc mh : Nat → Int32} {post : St2 → Prop} {t f r : Nat} {g : Int32} (ht : t < 4) (hf : fs t = nI f) (hr : rc t = nI r) (f32 : f < 32) (r32 : r < 1000)
    (hp : post (tT, wS, rL, sg, rC, gR, hd, lW, lv, oN, ur, cR, K, V, N, nx, ws, fo, pr, upd rs (t * 32 + (f + r) % 32) g, fs, upd rc t (nI (r + 1)), mh)) : wpX_appendRun post (tT, wS, rL, sg, rC, gR, hd, lW, lv, oN, ur, cR, K, V, N, nx, ws, fo, pr, rs, fs, rc, mh) (nI t) g := by
  have et : (nI t).toNatClampNeg = t := nI_clamp (by omega)
  have it : vp_in (nI t) 4 := vp_in_nI ht (by decide)
  have e3 : (fs (nI t).toNatClampNeg + rc (nI t).toNatClampNeg) - (fs (nI t).toNatClampNeg + rc (nI t).toNatClampNeg) / 32 * 32 = nI ((f + r) % 32) := by
    rw [et, hf, hr, nI_add]
    exact pk_rem (d := 32) (by omega) (by omega) (by omega)
  have ex : nI t * 32 + nI ((f + r) % 32) = nI (t * 32 + (f + r) % 32) := by
    have h1 : nI t * 32 = nI (t * 32) := pk_mul t 32
    rw [h1, nI_add]
  refine And.intro it (And.intro it (And.intro (by decide) (nm_r e3 (And.intro (by rw [ex]; exact vp_in_nI (by omega) (by decide)) (nm_r (e' := upd rs (t * 32 + (f + r) % 32) g) (by rw [ex, nI_clamp (by omega)]) (And.intro it (And.intro it (nm_r (e' := upd rc t (nI (r + 1))) (by rw [et, hr, nI_1]) hp))))))))
/-- while the runs are spread: round q, tape t; D dummies are left, w runs written -/
def ps_DI (T c R n q t D w : Nat) (L : Nat → Nat → Prop) (rn sl fsN rcN : Nat → Nat) (rs rc : Nat → Int32) : Prop :=
  ps_Dist c L rn w sl fsN rcN rs ∧ (∀ i, i < 4 → rc i = nI (rcN i)) ∧ (∀ i, i + 1 < T → i < t → rcN i = min (ps_pa T n i) (q + 1)) ∧ (∀ i, i + 1 < T → t ≤ i → rcN i = min (ps_pa T n i) q) ∧ (∀ i, T ≤ i + 1 → i < 4 → rcN i = 0)
    ∧ D + R + (rcN 0 + rcN 1 + rcN 2) = ps_tt T n + w ∧ (D = 0 ∨ w = 0) ∧ w ≤ R
theorem ps_DI_lt {T c R n q t D w : Nat} {L : Nat → Nat → Prop} {rn sl fsN rcN : Nat → Nat} {rs rc : Nat → Int32} (hT : ps_T34 T) (h : ps_DI T c R n q t D w L rn sl fsN rcN rs rc) (ht : t + 1 < T) (hq : q < ps_pa T n t) :
    rcN 0 + rcN 1 + rcN 2 < ps_tt T n ∧ rcN t = q := by
  obtain ⟨_, _, a, b, z, _⟩ := h
  have t4 := ps_T4 hT
  have bt := b t ht (Nat.le_refl t)
  have up : ∀ i, i < 3 → rcN i ≤ ps_pa T n i := by
    intro i hi
    by_cases e : i + 1 < T
    · by_cases l : i < t
      · rw [a i e l]; omega
      · rw [b i e (by omega)]; omega
    · rw [z i (by omega) (by omega)]; omega
  have u0 := up 0 (by omega)
  have u1 := up 1 (by omega)
  have u2 := up 2 (by omega)
  have e : rcN t = q := by omega
  refine ⟨?_, e⟩
  unfold ps_tt
  have c3 : t = 0 ∨ t = 1 ∨ t = 2 := by omega
  rcases c3 with c3 | c3 | c3 <;> subst c3 <;> omega
theorem px_d27 {wS rL sg rC gR hd lW lv oN ur cR : Int32} {K V N nx ws fo pr fs mh : Nat → Int32} {post : St2 → Prop} {J : Int32 → Int32 → Int32 → Int32 → Int32 → Int32 → Int32 → Int32 → Int32 → Int32 → Int32 → Int32 → Int32 → Int32 → Int32 → (Nat → Int32) → (Nat → Int32) → (Nat → Int32) → (Nat → Int32) → (Nat → Int32) → (Nat → Int32) → (Nat → Int32) → (Nat → Int32) → (Nat → Int32) → (Nat → Int32) → (Nat → Int32) → Prop}
    {T c R n q : Nat} {rn fsN : Nat → Nat} (hT : ps_T34 T) (hn : n + T ≤ 10) (hR : R ≤ 32) (hq : q < 32) (hpr : ∀ j, j < 4 → pr j = nI (ps_pa T n j)) (hfs : ∀ t, t < 4 → fs t = 0) (hz : ∀ t, t < 4 → fsN t = 0)
    (h1 : ∀ x, x < c → 1 ≤ rn x) (hfo : ∀ r, 1 ≤ r → r ≤ R → ps_mi (ps_L K) (fun x => x < c ∧ rn x = r) (fo (r - 1)))
    (hJ : ∀ (D w : Nat) (sl rcN : Nat → Nat) (rs rc : Nat → Int32), D ≤ 72 → ps_DI T c R n (q + 1) 0 D w (ps_L K) rn sl fsN rcN rs rc → J (nI D) (nI w) (nI (q + 1)) (nI T) wS rL sg rC gR hd lW lv oN ur cR K V N nx ws fo pr rs fs rc mh) :
    ∀ (m t D w : Nat) (sl rcN : Nat → Nat) (rs rc : Nat → Int32), t + 1 ≤ T → T - 1 - t < m → D ≤ 72 → ps_DI T c R n q t D w (ps_L K) rn sl fsN rcN rs rc → wX_distributeRuns_27 post J (nI q) m (nI D) (nI w) (nI t) (nI T) wS rL sg rC gR hd lW lv oN ur cR K V N nx ws fo pr rs fs rc mh := by
  have t4 := ps_T4 hT
  have e1 : nI T - 1 = nI (T - 1) := ps_p1 (by omega)
  intro m
  induction m with
  | zero => intro t D w sl rcN rs rc _ h; omega
  | succ m ih =>
    intro t D w sl rcN rs rc ht hm hD I
    refine ps_if (d := T - 1 ≤ t) (by rw [e1]; exact nI_leI (by omega) (by omega)) (fun z => nm_r (nI_1 q) (hJ D w sl rcN rs rc hD ?_)) (fun z => ?_)
    · obtain ⟨i1, i2, i3, i4, i5, i6, i7, i8⟩ := I
      exact ⟨i1, i2, fun i _ hi => absurd hi (Nat.not_lt_zero i), fun i hi _ => i3 i hi (by omega), i5, i6, i7, i8⟩
    · have et : (nI t).toNatClampNeg = t := nI_clamp (by omega)
      have pb := ps_pab hT hn t
      refine And.intro (vp_in_nI (by omega) (by decide)) (ps_if (d := q < ps_pa T n t) (by rw [et, hpr t (by omega)]; exact nI_ltI (by omega) (by omega)) (fun y => ?_) (fun y => ?_))
      · have lt := ps_DI_lt hT I (by omega) y
        obtain ⟨i1, i2, i3, i4, i5, i6, i7, i8⟩ := I
        have r32 : rcN t < 32 := by omega
        have et2 : t * 32 + (0 + rcN t) % 32 = t * 32 + rcN t := by omega
        refine ps_if (d := D ≤ 0) (nI_leI (b := 0) (by omega) (by omega)) (fun d0 => ?_) (fun d0 => ?_)
        · have D0 : D = 0 := by omega
          have wR : w < R := by omega
          have ew : (nI w).toNatClampNeg = w := nI_clamp (by omega)
          refine And.intro (vp_in_nI (by omega) (by decide)) (px_ap (f := 0) (r := rcN t) (by omega) (hfs t (by omega)) (i2 t (by omega)) (by omega) (by omega) ?_)
          refine nm_r (nI_1 w) (nm_r (nI_1 t) ?_)
          rw [ew, et2]
          refine ih (t + 1) D (w + 1) (ps_un sl (w + 1) (t * 32 + rcN t)) (ps_un rcN t (rcN t + 1)) _ _ (by omega) (by omega) hD ⟨ps_DistR i1 h1 hz (by omega) r32 (hfo (w + 1) (by omega) (by omega)), ?_, ?_, ?_, ?_, ?_, Or.inl D0, by omega⟩
          · intro i hi
            by_cases e : i = t
            · rw [e, pk_us, ps_us]
            · rw [pk_un e, ps_uo e]; exact i2 i hi
          · intro i hi hi2
            by_cases e : i = t
            · rw [e, ps_us]; omega
            · rw [ps_uo e]; exact i3 i hi (by omega)
          · intro i hi hi2
            rw [ps_uo (by omega)]; exact i4 i hi (by omega)
          · intro i hi hi2
            rw [ps_uo (by omega)]; exact i5 i hi hi2
          · have c3 : t = 0 ∨ t = 1 ∨ t = 2 := by omega
            rcases c3 with c3 | c3 | c3
            · subst c3; rw [ps_us, ps_uo (by omega), ps_uo (by omega)]; omega
            · subst c3; rw [ps_us, ps_uo (by omega), ps_uo (by omega)]; omega
            · subst c3; rw [ps_us, ps_uo (by omega), ps_uo (by omega)]; omega
        · have w0 : w = 0 := by omega
          obtain ⟨D', rfl⟩ : ∃ D', D = D' + 1 := ⟨D - 1, by omega⟩
          refine px_ap (f := 0) (r := rcN t) (by omega) (hfs t (by omega)) (i2 t (by omega)) (by omega) (by omega) ?_
          refine nm_r (pk_m1 D') (nm_r (nI_1 t) ?_)
          rw [et2]
          refine ih (t + 1) D' w sl (ps_un rcN t (rcN t + 1)) _ _ (by omega) (by omega) (by omega) ⟨ps_DistD i1 h1 hz (by omega) r32, ?_, ?_, ?_, ?_, ?_, Or.inr w0, i8⟩
          · intro i hi
            by_cases e : i = t
            · rw [e, pk_us, ps_us]
            · rw [pk_un e, ps_uo e]; exact i2 i hi
          · intro i hi hi2
            by_cases e : i = t
            · rw [e, ps_us]; omega
            · rw [ps_uo e]; exact i3 i hi (by omega)
          · intro i hi hi2
            rw [ps_uo (by omega)]; exact i4 i hi (by omega)
          · intro i hi hi2
            rw [ps_uo (by omega)]; exact i5 i hi hi2
          · have c3 : t = 0 ∨ t = 1 ∨ t = 2 := by omega
            rcases c3 with c3 | c3 | c3
            · subst c3; rw [ps_us, ps_uo (by omega), ps_uo (by omega)]; omega
            · subst c3; rw [ps_us, ps_uo (by omega), ps_uo (by omega)]; omega
            · subst c3; rw [ps_us, ps_uo (by omega), ps_uo (by omega)]; omega
      · obtain ⟨i1, i2, i3, i4, i5, i6, i7, i8⟩ := I
        refine nm_r (nI_1 t) (ih (t + 1) D w sl rcN rs rc (by omega) (by omega) hD ⟨i1, i2, ?_, fun i a b => i4 i a (by omega), i5, i6, i7, i8⟩)
        intro i hi hi2
        by_cases e : i = t
        · rw [e]
          have := i4 t (by omega) (Nat.le_refl t)
          omega
        · exact i3 i hi (by omega)
theorem px_d18 {wS rL sg rC gR hd lW lv oN ur cR : Int32} {K V N nx ws fo pr fs mh : Nat → Int32} {post : St2 → Prop} {T c R n : Nat} {rn fsN : Nat → Nat} (hT : ps_T34 T) (hn : n + T ≤ 10) (hR : R ≤ 32) (hpr : ∀ j, j < 4 → pr j = nI (ps_pa T n j)) (hfs : ∀ t, t < 4 → fs t = 0) (hz : ∀ t, t < 4 → fsN t = 0)
    (h1 : ∀ x, x < c → 1 ≤ rn x) (hfo : ∀ r, 1 ≤ r → r ≤ R → ps_mi (ps_L K) (fun x => x < c ∧ rn x = r) (fo (r - 1)))
    (hp : ∀ (sl rcN : Nat → Nat) (rs rc : Nat → Int32), ps_Dist c (ps_L K) rn R sl fsN rcN rs → (∀ t, t < 4 → rc t = nI (rcN t)) → (∀ t, t < 4 → rcN t = ps_pa T n t) → post (nI T, wS, rL, sg, rC, gR, hd, lW, lv, oN, ur, cR, K, V, N, nx, ws, fo, pr, rs, fs, rc, mh)) :
    ∀ (m q D w : Nat) (sl rcN : Nat → Nat) (rs rc : Nat → Int32), q ≤ 32 → 32 - q < m → D ≤ 72 → ps_DI T c R n q 0 D w (ps_L K) rn sl fsN rcN rs rc → wX_distributeRuns_18 post m (nI D) (nI w) (nI q) (nI T) wS rL sg rC gR hd lW lv oN ur cR K V N nx ws fo pr rs fs rc mh := by
  have t4 := ps_T4 hT
  intro m
  induction m with
  | zero => intro q D w sl rcN rs rc _ h; omega
  | succ m ih =>
    intro q D w sl rcN rs rc hq hm hD I
    refine ps_if (d := 32 ≤ q) (nI_leI (a := 32) (by omega) (by omega)) (fun z => ?_) (fun z => ?_)
    · obtain ⟨i1, i2, i3, i4, i5, i6, i7, i8⟩ := I
      have er : ∀ t, t < 4 → rcN t = ps_pa T n t := by
        intro t ht
        by_cases e : t + 1 < T
        · have := i4 t e (Nat.zero_le t)
          have := ps_pab hT hn t
          omega
        · rw [i5 t (by omega) ht, ps_pa_0 hT (by omega)]
      have w1 : w = R := by
        have r0 := er 0 (by omega)
        have r1 := er 1 (by omega)
        have r2 := er 2 (by omega)
        unfold ps_tt at i6
        omega
      rw [w1] at i1
      exact hp sl rcN rs rc i1 i2 er
    · exact Exists.intro T (px_d27 hT hn hR (by omega) hpr hfs hz h1 hfo (fun D w sl rcN rs rc hD I => ih (q + 1) D w sl rcN rs rc (by omega) (by omega) hD I) T 0 D w sl rcN rs rc (by omega) (by omega) hD I)
theorem px_di {wS rL sg rC hd lW lv oN ur cR : Int32} {K V N nx ws fo pr rs fs rc mh : Nat → Int32} {post : St2 → Prop} {T c R n : Nat} {rn : Nat → Nat} (hT : ps_T34 T) (hn : n + T ≤ 10) (hR : R ≤ 32) (hRt : R ≤ ps_tt T n) (hpr : ∀ j, j < 4 → pr j = nI (ps_pa T n j))
    (h1 : ∀ x, x < c → 1 ≤ rn x) (hfo : ∀ r, 1 ≤ r → r ≤ R → ps_mi (ps_L K) (fun x => x < c ∧ rn x = r) (fo (r - 1)))
    (hp : ∀ (sl rcN : Nat → Nat) (rs fs rc : Nat → Int32), (∀ t, t < 4 → fs t = 0) → ps_Dist c (ps_L K) rn R sl (fun _ => 0) rcN rs → (∀ t, t < 4 → rc t = nI (rcN t)) → (∀ t, t < 4 → rcN t = ps_pa T n t) → post (nI T, wS, rL, sg, rC, nI R, hd, lW, lv, oN, ur, cR, K, V, N, nx, ws, fo, pr, rs, fs, rc, mh)) :
    wpX_distributeRuns post (nI T, wS, rL, sg, rC, nI R, hd, lW, lv, oN, ur, cR, K, V, N, nx, ws, fo, pr, rs, fs, rc, mh) := by
  have t4 := ps_T4 hT
  have tb := ps_ttb hT hn
  unfold wpX_distributeRuns
  refine px_et (fun fs' rc' h0 => ?_)
  refine px_pt hT hpr (nm_r (pk_sub hRt) ?_)
  refine Exists.intro 33 (px_d18 (fsN := fun _ => 0) hT hn hR hpr (fun t ht => (h0 t ht).1) (fun _ _ => rfl) h1 hfo (fun sl rcN rs rc a b c => hp sl rcN rs fs' rc (fun t ht => (h0 t ht).1) a b c) 33 0 (ps_tt T n - R) 0 (fun _ => 0) (fun _ => 0) rs rc' (by omega) (by omega) (by omega) ?_)
  refine ⟨ps_Dist0 _ _ _ _ _ _ _ (fun _ _ => rfl), fun i hi => (h0 i hi).2, fun i _ hi => absurd hi (Nat.not_lt_zero i), fun i _ _ => ?_, fun _ _ _ => rfl, ?_, Or.inr rfl, by omega⟩
  · show 0 = min _ 0
    omega
  · show ps_tt T n - R + R + (0 + 0 + 0) = ps_tt T n + 0
    omega
