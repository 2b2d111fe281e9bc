/-! the component's states in the law, and its methods -/
def qs_kv (c : Nat) (ky vl K V : Nat → Int32) : Prop := ∀ x, x < c → K x = ky x ∧ V x = vl x
def qs_F (T W A c : Nat) (ky vl : Nat → Int32) (u : St2) : Prop := ∃ (R h : Nat) (rn w : Nat → Nat) (wr : Nat → Prop) (lW : Int32) (K V N nx ws fo pr rs fs rc mh ins : Nat → Int32),
  ps_Com T W A c R rn N ∧ ps_Fd W c h rn w wr K nx ws fo ins lW ∧ qs_kv c ky vl K V ∧ u = (nI T, nI W, nI A, 0, nI c, nI R, nI h, lW, -1, -1, -1, -1, K, V, N, nx, ws, fo, pr, rs, fs, rc, mh)
def qs_M (T W A c n f e : Nat) (ky vl : Nat → Int32) (u : St2) : Prop := ∃ (R d : Nat) (rn fsN rcN own : Nat → Nat) (lW : Int32) (K V N nx ws fo pr rs fs rc mh : Nat → Int32),
  ps_Com T W A c R rn N ∧ ps_Mg T c n f d e fsN rcN own K nx rs fs rc rc ∧ qs_kv c ky vl K V ∧ u = (nI T, nI W, nI A, 1, nI c, nI R, nI 0, lW, nI n, nI f, -1, -1, K, V, N, nx, ws, fo, pr, rs, fs, rc, mh)
def qs_S (T W A c f : Nat) (ky vl : Nat → Int32) (la : Int32) (u : St2) : Prop := ∃ (R p : Nat) (rn : Nat → Nat) (ur lW : Int32) (K V N nx ws fo pr rs fs rc mh : Nat → Int32),
  ps_Com T W A c R rn N ∧ ps_So T c f p la ur ky nx rs fs rc rc ∧ (rc f = 1 ∧ ∀ t, t < T → t ≠ f → rc t = 0) ∧ qs_kv c ky vl K V ∧ u = (nI T, nI W, nI A, 2, nI c, nI R, nI 0, lW, 0, nI f, ur, la, K, V, N, nx, ws, fo, pr, rs, fs, rc, mh)
/-- the order by the given keys -/
theorem qs_Lk {c : Nat} {ky vl K V : Nat → Int32} (H : qs_kv c ky vl K V) : ∀ x y, x < c → y < c → ps_L K x y → ps_L ky x y := by
  intro x y hx hy h
  unfold ps_L at *
  rw [← (H x hx).1, ← (H y hy).1]
  exact h
theorem qs_Lk' {c : Nat} {ky vl K V : Nat → Int32} (H : qs_kv c ky vl K V) : ∀ x y, x < c → y < c → ps_L ky x y → ps_L K x y := by
  intro x y hx hy h
  unfold ps_L at *
  rw [(H x hx).1, (H y hy).1]
  exact h
/-- sorted by K is sorted by the given keys -/
theorem qs_So {c s0 : Nat} {ky vl K V nx rs : Nat → Int32} (H : qs_kv c ky vl K V) (S : ps_mi (ps_L K) (fun x => x < c) (rs s0) ∧ (∀ x, x < c → ps_mi (ps_L K) (fun y => y < c ∧ ps_L K x y) (nx x))) :
    ps_mi (ps_L ky) (fun x => x < c) (rs s0) ∧ (∀ x, x < c → ps_mi (ps_L ky) (fun y => y < c ∧ ps_L ky x y) (nx x)) := by
  refine ⟨ps_mi_l (fun y => Iff.rfl) (fun x y hx hy h => qs_Lk H x y hx hy h) S.1, fun x hx => ps_mi_l (fun y => ⟨fun z => ⟨z.1, qs_Lk H x y hx z.1 z.2⟩, fun z => ⟨z.1, qs_Lk' H x y hx z.1 z.2⟩⟩) (fun a b ha hb h => qs_Lk H a b ha.1 hb.1 h) (S.2 x hx)⟩
theorem qs_put {T W A c : Nat} {ky vl : Nat → Int32} {u : St2} {post : Int32 → St2 → Prop} {k v : Int32} (I : qs_F T W A c ky vl u) (hk : k = ky c) (hv : v = vl c)
    (h0 : c < A → ∀ u', qs_F T W A (c + 1) ky vl u' → post 0 u') (h2 : c = A → post 2 u) : wpX_put post u k v := by
  obtain ⟨R, h, rn, w, wr, lW, K, V, N, nx, ws, fo, pr, rs, fs, rc, mh, ins, HC, HF, HK, rfl⟩ := I
  have hh := ps_hN HC
  have HC2 := HC
  obtain ⟨hT, w2, w8, a8, a6, ca, hN, hR⟩ := HC2
  have HF2 := HF
  obtain ⟨hW, _, F, Wk, hw, hi, hn⟩ := HF2
  have kv : qs_kv (c + 1) ky vl (upd K c k) (upd V c v) := by
    intro x hx
    by_cases e : x = c
    · rw [e, pk_us, pk_us]; exact ⟨hk, hv⟩
    · rw [pk_un e, pk_un e]; exact HK x (by omega)
  by_cases cA : c < A
  · by_cases hf : h < W
    · refine px_putF a6 w8 cA hf (by omega) (fun q => ?_) (fun q => ?_)
      · have G := ps_FdF (k := k) (V := V) HC HF cA hf (R' := R) (fun _ => rfl) (fun z => by omega)
        exact h0 cA _ ⟨R, h + 1, ps_un rn c 1, ps_un w h c, wr, lW, upd K c k, upd V c v, upd N c 1, nx, upd ws h (nI c), fo, pr, rs, fs, rc, mh, upd ins c 1, G.1, G.2, kv, rfl⟩
      · have G := ps_FdF (k := k) (V := V) HC HF cA hf (R' := 1) (fun z => by omega) (fun _ => rfl)
        exact h0 cA _ ⟨1, h + 1, ps_un rn c 1, ps_un w h c, wr, lW, upd K c k, upd V c v, upd N c 1, nx, upd ws h (nI c), fo, pr, rs, fs, rc, mh, upd ins c 1, G.1, G.2, kv, rfl⟩
    · refine px_putW (w := w) (rn := rn) (wr := wr) a6 cA (by omega) (by omega) (by omega) (by omega) F hh.2.2.2 Wk hw (fun b r R' hb hm k1 k2 r0 r1 nx' fo' F' => ?_)
      have G := ps_FdW (V := V) HC HF cA (by omega) hb hm k1 k2 r0 r1 F'
      exact h0 cA _ ⟨R', h, ps_un rn c r, ps_un w b c, fun x => wr x ∨ x = w b, nI (w b), upd K c k, upd V c v, upd N c (nI r), nx', upd ws b (nI c), fo', pr, rs, fs, rc, mh, upd (upd ins (w b) 0) c 1, G.1, G.2, kv, rfl⟩
  · exact br_t rfl (ps_if (d := c < A) (nI_ltI (by omega) (by omega)) (fun q => absurd q cA) (fun _ => h2 (by omega)))
/-! wrong stages -/
theorem qs_putM {T W A c n f e : Nat} {ky vl : Nat → Int32} {u : St2} {post : Int32 → St2 → Prop} {k v : Int32} (I : qs_M T W A c n f e ky vl u) (h : post 1 u) : wpX_put post u k v := by
  obtain ⟨R, d, rn, fsN, rcN, own, lW, K, V, N, nx, ws, fo, pr, rs, fs, rc, mh, HC, HM, HK, rfl⟩ := I
  exact br_f (by decide) h
theorem qs_readM {T W A c n f e : Nat} {ky vl : Nat → Int32} {u : St2} {post : Int32 → St2 → Prop} (I : qs_M T W A c n f e ky vl u) (h : post 1 u) : wpX_read post u := by
  obtain ⟨R, d, rn, fsN, rcN, own, lW, K, V, N, nx, ws, fo, pr, rs, fs, rc, mh, HC, HM, HK, rfl⟩ := I
  exact br_f (by decide) h
theorem qs_rewM {T W A c n f e : Nat} {ky vl : Nat → Int32} {u : St2} {post : Int32 → St2 → Prop} (I : qs_M T W A c n f e ky vl u) (h : post 1 u) : wpX_rewind post u := by
  obtain ⟨R, d, rn, fsN, rcN, own, lW, K, V, N, nx, ws, fo, pr, rs, fs, rc, mh, HC, HM, HK, rfl⟩ := I
  exact br_f (by decide) h
theorem qs_readF {T W A c : Nat} {ky vl : Nat → Int32} {u : St2} {post : Int32 → St2 → Prop} (I : qs_F T W A c ky vl u) (h : post 1 u) : wpX_read post u := by
  obtain ⟨R, hx, rn, w, wr, lW, K, V, N, nx, ws, fo, pr, rs, fs, rc, mh, ins, HC, HF, HK, rfl⟩ := I
  exact br_f (by decide) h
theorem qs_rewF {T W A c : Nat} {ky vl : Nat → Int32} {u : St2} {post : Int32 → St2 → Prop} (I : qs_F T W A c ky vl u) (h : post 1 u) : wpX_rewind post u := by
  obtain ⟨R, hx, rn, w, wr, lW, K, V, N, nx, ws, fo, pr, rs, fs, rc, mh, ins, HC, HF, HK, rfl⟩ := I
  exact br_f (by decide) h
/-! the level, the output tape, the counts -/
theorem qs_levF {T W A c : Nat} {ky vl : Nat → Int32} {u : St2} {post : Int32 → Prop} (I : qs_F T W A c ky vl u) (h : post (-1)) : wpX_level post u := by
  obtain ⟨R, hx, rn, w, wr, lW, K, V, N, nx, ws, fo, pr, rs, fs, rc, mh, ins, HC, HF, HK, rfl⟩ := I
  exact h
theorem qs_levM {T W A c n f e : Nat} {ky vl : Nat → Int32} {u : St2} {post : Int32 → Prop} (I : qs_M T W A c n f e ky vl u) (h : post (nI n)) : wpX_level post u := by
  obtain ⟨R, d, rn, fsN, rcN, own, lW, K, V, N, nx, ws, fo, pr, rs, fs, rc, mh, HC, HM, HK, rfl⟩ := I
  exact h
theorem qs_levS {T W A c f : Nat} {ky vl : Nat → Int32} {la : Int32} {u : St2} {post : Int32 → Prop} (I : qs_S T W A c f ky vl la u) (h : post 0) : wpX_level post u := by
  obtain ⟨R, p, rn, ur, lW, K, V, N, nx, ws, fo, pr, rs, fs, rc, mh, HC, HS, Hr, HK, rfl⟩ := I
  exact h
theorem qs_outM {T W A c n f e : Nat} {ky vl : Nat → Int32} {u : St2} {post : Int32 → Prop} (I : qs_M T W A c n f e ky vl u) (h : post (nI f)) : wpX_outputTape post u := by
  obtain ⟨R, d, rn, fsN, rcN, own, lW, K, V, N, nx, ws, fo, pr, rs, fs, rc, mh, HC, HM, HK, rfl⟩ := I
  exact h
theorem qs_outS {T W A c f : Nat} {ky vl : Nat → Int32} {la : Int32} {u : St2} {post : Int32 → Prop} (I : qs_S T W A c f ky vl la u) (h : post (nI f)) : wpX_outputTape post u := by
  obtain ⟨R, p, rn, ur, lW, K, V, N, nx, ws, fo, pr, rs, fs, rc, mh, HC, HS, Hr, HK, rfl⟩ := I
  exact h
theorem qs_cntS {T W A c f : Nat} {ky vl : Nat → Int32} {la : Int32} {u : St2} {post : Int32 → Prop} (I : qs_S T W A c f ky vl la u) (h : post (nI c)) : wpX_count post u := by
  obtain ⟨R, p, rn, ur, lW, K, V, N, nx, ws, fo, pr, rs, fs, rc, mh, HC, HS, Hr, HK, rfl⟩ := I
  exact h
theorem qs_ro {wS rL sg rC gR hd lW lv oN ur cR : Int32} {K V N nx ws fo pr rs fs rc mh : Nat → Int32} {post : Int32 → Prop} {T j : Nat} (hT : ps_T34 T) (hs : ¬ sg = 0) (hj : j < T) (h : post (rc j)) : wpX_runsOn post (nI T, wS, rL, sg, rC, gR, hd, lW, lv, oN, ur, cR, K, V, N, nx, ws, fo, pr, rs, fs, rc, mh) (nI j) := by
  have t4 := ps_T4 hT
  refine br_f hs (br_f (nI_pos (by omega)) (br_t (nI_lt hj (by omega)) (And.intro (vp_in_nI (by omega) (by decide)) ?_)))
  rw [nI_clamp (by omega)]; exact h
theorem qs_roS {T W A c f j : Nat} {ky vl : Nat → Int32} {la : Int32} {u : St2} {post : Int32 → Prop} (I : qs_S T W A c f ky vl la u) (hj : j < T) (h1 : j = f → post 1) (h0 : j ≠ f → post 0) : wpX_runsOn post u (nI j) := by
  obtain ⟨R, p, rn, ur, lW, K, V, N, nx, ws, fo, pr, rs, fs, rc, mh, HC, HS, Hr, HK, rfl⟩ := I
  refine qs_ro HC.1 (by decide) hj ?_
  by_cases e : j = f
  · rw [e, Hr.1]; exact h1 e
  · rw [Hr.2 j hj e]; exact h0 e
/-- the counts when no merge of the phase is done -/
theorem qs_roM {T W A c n f j : Nat} {ky vl : Nat → Int32} {u : St2} {post : Int32 → Prop} (I : qs_M T W A c n f (ps_pa T n (T - 2)) ky vl u) (hj : j < T) (h : post (nI (if j = f then 0 else ps_pa T n ((j + T - f - 1) % T)))) : wpX_runsOn post u (nI j) := by
  obtain ⟨R, d, rn, fsN, rcN, own, lW, K, V, N, nx, ws, fo, pr, rs, fs, rc, mh, HC, HM, HK, rfl⟩ := I
  refine qs_ro HC.1 (by decide) hj ?_
  obtain ⟨n1, nT, hf, ⟨he, e1⟩, hRc, hz, hfr, hhl, O⟩ := HM
  have d0 : d = 0 := by omega
  subst d0
  rw [hhl j hj, hRc j hj]
  exact h
