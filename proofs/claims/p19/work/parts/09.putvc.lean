/-! put keeps the relation. -/
/-- the feeding state after a put into a free cell -/
theorem ps_FdF {T W A c R R' h : Nat} {rn w : Nat → Nat} {wr : Nat → Prop} {K V N nx ws fo ins : Nat → Int32} {lW k : Int32} (HC : ps_Com T W A c R rn N) (HF : ps_Fd W c h rn w wr K nx ws fo ins lW) (hc : c < A) (hh : h < W)
    (r0 : 1 ≤ R → R' = R) (r1 : R < 1 → R' = 1) :
    ps_Com T W A (c + 1) R' (ps_un rn c 1) (upd N c 1) ∧ ps_Fd W (c + 1) (h + 1) (ps_un rn c 1) (ps_un w h c) wr (upd K c k) nx (upd ws h (nI c)) fo (upd ins c 1) lW := by
  obtain ⟨hT, w2, w8, a8, a6, ca, hN, hR⟩ := HC
  obtain ⟨hW, hl, F, Wk, hw, hi, hn⟩ := HF
  have er : ∀ x, x < c → ps_un rn c 1 x = rn x := fun x hx => ps_uo (by omega)
  obtain ⟨hhc, lw⟩ := hl hh
  refine ⟨⟨hT, w2, w8, a8, a6, by omega, ?_, ?_⟩, by omega, ?_, ?_, ?_, ?_, ?_, ?_⟩
  · intro x hx
    by_cases e : x = c
    · rw [e, pk_us, ps_us]; rfl
    · rw [pk_un e, ps_uo e]; exact hN x (by omega)
  · by_cases R0 : 1 ≤ R
    · rw [r0 R0]; exact ps_RnA hR er (by rw [ps_us]; omega) (by rw [ps_us]; exact R0)
    · have c0 : c = 0 := by
        by_cases c0 : c = 0
        · exact c0
        · obtain ⟨x, hx, ex⟩ := hR.2.2.1 (by omega)
          have := hR.1 x hx
          omega
      have e0 : R = 0 := by omega
      rw [r1 (by omega)]
      have q := ps_RnB hR er (by rw [ps_us, e0]) (Or.inl c0)
      rw [e0] at q
      exact q
  · intro _; exact ⟨by omega, lw⟩
  · refine ps_add (ps_FeedC ps_LK er F) (fun _ => ps_us) (fun l el _ => ?_)
    rw [lw] at el
    exact absurd el.symm (ps_ne (by have := F.1 l (by assumption); omega))
  · exact ps_WsA Wk F.1
  · intro j hj
    by_cases e : j = h
    · rw [e, pk_us, ps_us]
    · rw [pk_un e, ps_uo e]; exact hw j (by omega)
  · intro x hx
    by_cases e : x = c
    · rw [e, pk_us]
      constructor
      · intro z; exact absurd z (by decide)
      · intro z; have := F.1 c z; omega
    · rw [pk_un e]; exact hi x (by omega)
  · rw [ps_cn_s, pk_us, if_neg (by decide), ps_cn_c (a := upd ins c 1) (b := ins) c (fun x hx => pk_un (by omega)), hn]
/-- the feeding state after a put that replaces the front -/
theorem ps_FdW {T W A c R R' h b r : Nat} {rn w : Nat → Nat} {wr : Nat → Prop} {K V N nx nx' ws fo fo' ins : Nat → Int32} {lW k : Int32} (HC : ps_Com T W A c R rn N) (HF : ps_Fd W c h rn w wr K nx ws fo ins lW) (hc : c < A) (hh : W ≤ h)
    (hb : b < h) (hm : ∀ y, y < c → ¬ wr y → y = w b ∨ ps_R rn (ps_L K) (w b) y) (k1 : k.toInt < (K (w b)).toInt → r = rn (w b) + 1) (k2 : ¬ k.toInt < (K (w b)).toInt → r = rn (w b)) (r0 : r ≤ R → R' = R) (r1 : R < r → R' = r)
    (F' : ps_Feed c (ps_L (upd K c k)) (ps_un rn c r) (fun x => wr x ∨ x = w b) nx' fo' (nI (w b))) :
    ps_Com T W A (c + 1) R' (ps_un rn c r) (upd N c (nI r)) ∧ ps_Fd W (c + 1) h (ps_un rn c r) (ps_un w b c) (fun x => wr x ∨ x = w b) (upd K c k) nx' (upd ws b (nI c)) fo' (upd (upd ins (w b) 0) c 1) (nI (w b)) := by
  obtain ⟨hT, w2, w8, a8, a6, ca, hN, hR⟩ := HC
  obtain ⟨hW, hl, F, Wk, hw, hi, hn⟩ := HF
  have er : ∀ x, x < c → ps_un rn c r x = rn x := fun x hx => ps_uo (by omega)
  have wb := Wk.1 b hb
  have rb := hR.1 _ wb.1
  have rr : r = rn (w b) ∨ r = rn (w b) + 1 := by
    by_cases z : k.toInt < (K (w b)).toInt
    · exact Or.inr (k1 z)
    · exact Or.inl (k2 z)
  refine ⟨⟨hT, w2, w8, a8, a6, by omega, ?_, ?_⟩, hW, ?_, ?_, ?_, ?_, ?_, ?_⟩
  · intro x hx
    by_cases e : x = c
    · rw [e, pk_us, ps_us]
    · rw [pk_un e, ps_uo e]; exact hN x (by omega)
  · by_cases q : r ≤ R
    · rw [r0 q]; exact ps_RnA hR er (by rw [ps_us]; omega) (by rw [ps_us]; exact q)
    · have e : r = R + 1 := by omega
      have eb : rn (w b) = R := by omega
      rw [r1 (by omega), e]
      refine ps_RnB hR (by rw [← e]; exact er) ps_us (Or.inr ⟨w 0, w 1, (Wk.1 0 (by omega)).1, (Wk.1 1 (by omega)).1, ?_, ?_, ?_⟩)
      · intro z; have := Wk.2.1 0 1 (by omega) (by omega) z; omega
      · have a := Wk.1 0 (by omega)
        have a1 := hR.1 _ a.1
        rcases hm _ a.1 a.2 with z | z
        · rw [z]; exact eb
        · have := ps_R_le z; omega
      · have a := Wk.1 1 (by omega)
        have a1 := hR.1 _ a.1
        rcases hm _ a.1 a.2 with z | z
        · rw [z]; exact eb
        · have := ps_R_le z; omega
  · intro z; omega
  · refine ps_add F' (fun z => absurd z (ps_ne (by omega))) (fun l el hl' => ?_)
    have e : w b = l := by
      refine ps_inj (by omega) ?_ el
      rcases hl' with z | z
      · have := F.1 l z; omega
      · omega
    rw [← e, ps_us, er _ wb.1]
    refine ⟨?_, by omega⟩
    by_cases z : k.toInt < (K (w b)).toInt
    · left; rw [ps_us, er _ wb.1, k1 z]; omega
    · right
      refine ⟨by rw [ps_us, er _ wb.1, k2 z], ?_⟩
      unfold ps_L
      rw [pk_us, pk_un (by omega)]
      omega
  · exact ps_WsB Wk F.1 hb
  · intro j hj
    by_cases e : j = b
    · rw [e, pk_us, ps_us]
    · rw [pk_un e, ps_uo e]; exact hw j hj
  · intro x hx
    by_cases e : x = c
    · rw [e, pk_us]
      constructor
      · intro z; exact absurd z (by decide)
      · intro z
        rcases z with z | z
        · have := F.1 c z; omega
        · omega
    · rw [pk_un e]
      by_cases e2 : x = w b
      · rw [e2, pk_us]; exact ⟨fun _ => Or.inr rfl, fun _ => rfl⟩
      · rw [pk_un e2]
        constructor
        · intro z; exact Or.inl ((hi x (by omega)).1 z)
        · intro z
          rcases z with z | z
          · exact (hi x (by omega)).2 z
          · exact absurd z e2
  · rw [ps_cn_s, pk_us, if_neg (by decide), ps_cn_c (a := upd (upd ins (w b) 0) c 1) (b := upd ins (w b) 0) c (fun x hx => pk_un (by omega))]
    rw [ps_cn_u (fun z => wb.2 ((hi _ wb.1).1 z)) c wb.1]
    exact hn
