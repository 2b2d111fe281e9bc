/-! the law's own small functions -/
def qs_cell (L : Nat) (xs : Nat → Int32) (k : Nat) : Int32 := if L ≤ k then 0 else xs k
theorem qs_c {post : Int32 → Prop} {L k : Nat} {xs : Nat → Int32} {i : Int32} (hL : L ≤ 260) (hk : k < 2 ^ 31) (hi : i = nI k) (h : post (qs_cell L xs k)) : wpL_cell post L xs () i := by
  subst hi
  unfold qs_cell at h
  refine ps_if (d := L ≤ k) (nI_leI (by omega) hk) (fun q => ?_) (fun q => ?_)
  · rw [if_pos q] at h; exact h
  · rw [if_neg q] at h
    refine And.intro (vp_in_nI (by omega) (by omega)) ?_
    rw [nI_clamp hk]; exact h
theorem qs_md (x : Int32) {m : Nat} (h0 : 0 < m) (h1 : m < 1000) : ∃ j, j < m ∧ ∀ post : Int32 → Prop, post (nI j) → wpL_mod post () x (nI m) := by
  have mt : (nI m).toInt = (m : Int) := nI_toInt (by omega)
  have rt := rem_toInt x (nI m)
  rw [mt] at rt
  have tb := tmod_bounds (a := x.toInt) (M := (m : Int)) (by omega)
  generalize hr : x - x / nI m * nI m = r at rt
  have m0 : ¬ nI m = 0 := nI_ne0 h0 (by omega)
  have z0 : (0 : Int32).toInt = 0 := by decide
  by_cases p : 0 ≤ r
  · have p2 := (ps_kle 0 r).1 p
    rw [z0] at p2
    obtain ⟨j, hj, ej⟩ := nI_of (x := r) (Int32.not_lt.mpr p)
    have jt : r.toInt = (j : Int) := by rw [ej]; exact nI_toInt hj
    refine ⟨j, by omega, fun post h => ?_⟩
    refine And.intro m0 (nm_r hr (br_t p ?_))
    rw [ej]; exact h
  · have p2 : r.toInt < 0 := by
      have q : ¬ (0 : Int32).toInt ≤ r.toInt := fun z => p ((ps_kle 0 r).2 z)
      rw [z0] at q
      omega
    have st : (r + nI m).toInt = r.toInt + (m : Int) := by
      rw [Int32.toInt_add, mt]
      exact Int.bmod_eq_of_le (by omega) (by omega)
    have pos : ¬ (r + nI m) < 0 := by
      intro z
      have := (ps_klt _ _).1 z
      rw [z0, st] at this
      omega
    obtain ⟨j, hj, ej⟩ := nI_of (x := r + nI m) pos
    have jt : (r + nI m).toInt = (j : Int) := by rw [ej]; exact nI_toInt hj
    refine ⟨j, by omega, fun post h => ?_⟩
    refine And.intro m0 (nm_r hr (br_f p ?_))
    rw [ej]; exact h
def qs_mix (a b : Int32) : Int32 :=
  ((((a * (-1640531535)) + (b * (-2048144789))) + 19088743) ^^^ (((((a * (-1640531535)) + (b * (-2048144789))) + 19088743).toUInt32 >>> ((15 : Int32).toUInt32 &&& Int32.toUInt32 31)).toInt32)) * 739982445 ^^^ (((((((a * (-1640531535)) + (b * (-2048144789))) + 19088743) ^^^ (((((a * (-1640531535)) + (b * (-2048144789))) + 19088743).toUInt32 >>> ((15 : Int32).toUInt32 &&& Int32.toUInt32 31)).toInt32)) * 739982445).toUInt32 >>> ((13 : Int32).toUInt32 &&& Int32.toUInt32 31)).toInt32)
theorem qs_m {post : Int32 → Prop} {a b : Int32} (h : post (qs_mix a b)) : wpL_mix post () a b := by
  intro x1 e1 x2 e2 x3 e3 x4 e4
  subst e1
  subst e2
  subst e3
  subst e4
  exact h
theorem qs_k0 (m c i : Int32) : ∃ k : Int32, ∀ post : Int32 → Prop, post k → wpL_keyOf post () m c i := by
  by_cases m0 : m = 0
  · exact ⟨_, fun post h => qs_m (br_t m0 h)⟩
  · by_cases m1 : m = 1
    · exact ⟨_, fun post h => qs_m (br_f m0 (br_t m1 h))⟩
    · by_cases m2 : m = 2
      · exact ⟨_, fun post h => qs_m (br_f m0 (br_f m1 (br_t m2 h)))⟩
      · by_cases m3 : m = 3
        · exact ⟨_, fun post h => qs_m (br_f m0 (br_f m1 (br_f m2 (br_t m3 h))))⟩
        · by_cases o : qs_mix c i &&& 1 = 0
          · exact ⟨_, fun post h => qs_m (br_f m0 (br_f m1 (br_f m2 (br_f m3 (nm_e (br_t o h))))))⟩
          · exact ⟨_, fun post h => qs_m (br_f m0 (br_f m1 (br_f m2 (br_f m3 (nm_e (br_f o h))))))⟩
noncomputable def qs_key (m c i : Int32) : Int32 := Classical.choose (qs_k0 m c i)
theorem qs_k {post : Int32 → Prop} {m c i : Int32} (h : post (qs_key m c i)) : wpL_keyOf post () m c i := Classical.choose_spec (qs_k0 m c i) post h
def qs_val (c i : Int32) : Int32 := qs_mix c (i + 77)
theorem qs_v {post : Int32 → Prop} {c i : Int32} (h : post (qs_val c i)) : wpL_valueOf post () c i := qs_m h
noncomputable def qs_ky (L : Nat) (xs : Nat → Int32) (B : Nat) (md : Int32) (x : Nat) : Int32 := qs_key md (qs_cell L xs (B + 4 + x)) (nI x)
def qs_vl (L : Nat) (xs : Nat → Int32) (B : Nat) (x : Nat) : Int32 := qs_val (qs_cell L xs (B + 4 + x)) (nI x)
theorem qs_ix (B x : Nat) : nI B + 4 + nI x = nI (B + 4 + x) := by
  have h : nI B + 4 = nI (B + 4) := nI_add B 4
  rw [h, nI_add]
/-! row -/
theorem qs_row11 {post : Int32 → Prop} {T l j : Nat} (hT : ps_T34 T) (hl : l ≤ 7) (j1 : 1 ≤ j) (jT : j < T) (h : post (nI (ps_pa T l (j - 1)))) :
    ∀ m i, i ≤ l → l - i < m → wL_row_11 post (nI T) (nI l) (nI j) m (nI (ps_pa T i 0)) (nI (ps_pa T i 1)) (nI (ps_pa T i 2)) (nI i) := by
  have t4 := ps_T4 hT
  intro m
  induction m with
  | zero => intro i _ h; omega
  | succ m ih =>
    intro i hi hm
    refine ps_if (d := l ≤ i) (nI_leI (by omega) (by omega)) (fun q => ?_) (fun q => ?_)
    · have e : i = l := by omega
      subst e
      have c : j = 1 ∨ j = 2 ∨ j = 3 := by omega
      rcases c with c | c | c
      · subst c; exact br_t rfl h
      · subst c; exact br_f (by decide) (br_t rfl h)
      · subst c; exact br_f (by decide) (br_f (by decide) h)
    · have s := ih (i + 1) (by omega) (by omega)
      have e0 : ps_pa T (i + 1) 0 = ps_pa T i 0 + ps_pa T i 1 := by rw [ps_pa_s, if_pos (by omega)]
      have e1 : ps_pa T (i + 1) 1 = ps_pa T i 0 + ps_pa T i 2 := by rw [ps_pa_s, if_pos (by omega)]
      rw [e0, e1] at s
      refine br_f (nI_ge (b := 40) (by omega) (by decide)) (nm_r (nI_add _ _) (nm_r (nI_add _ _) (ps_if (d := T = 4) (nI_eq (b := 4) (by omega) (by omega)) (fun z => ?_) (fun z => ?_))))
      · have e2 : ps_pa T (i + 1) 2 = ps_pa T i 0 := by
          rw [ps_pa_s, if_pos (by omega), ps_pa_0 (j := 2 + 1) hT (by omega)]; omega
        rw [e2] at s
        exact nm_r (nI_1 i) s
      · have e2 : ps_pa T (i + 1) 2 = 0 := ps_pa_0 hT (by omega)
        rw [e2] at s
        exact nm_r (nI_1 i) s
theorem qs_row {post : Int32 → Prop} {T l j : Nat} (hT : ps_T34 T) (hl : l ≤ 7) (j1 : 1 ≤ j) (jT : j < T) (h : post (nI (ps_pa T l (j - 1)))) : wpL_row post () (nI T) (nI l) (nI j) := by
  have s := qs_row11 hT hl j1 jT h (l + 1) 0 (by omega) (by omega)
  exact Exists.intro (l + 1) s
/-! the bits of the origins seen -/
theorem qs_bit {w : Int64} {b : Nat} (hb : b < 64) : ((w.toUInt64 >>> ((nI b).toInt64.toUInt64 &&& Int64.toUInt64 63)).toInt64 &&& 1) = 0 ↔ w.toBitVec.getLsbD b = false :=
  ts_bit hb (by rw [wb_cu b hb]; exact u_tn (by omega))
theorem qs_set {w : Int64} {b x : Nat} (hb : b < 64) (hx : x < 64) : (w ||| ((1 : Int64) <<< ((nI b).toInt64 &&& 63))).toBitVec.getLsbD x = true ↔ (w.toBitVec.getLsbD x = true ∨ x = b) := by
  have h : (1 : Int64) <<< ((nI b).toInt64 &&& 63) = lN (1 * 2 ^ b) := wb_shl 1 hb
  rw [h, Nat.one_mul, Int64.toBitVec_or, wb_tb, BitVec.getLsbD_or, BitVec.getLsbD_ofNat, Nat.testBit_two_pow]
  simp only [Bool.or_eq_true, Bool.and_eq_true, decide_eq_true_eq]
  constructor
  · intro q
    rcases q with q | q
    · exact Or.inl q
    · exact Or.inr q.2.symm
  · intro q
    rcases q with q | q
    · exact Or.inl q
    · exact Or.inr ⟨hx, q.symm⟩
