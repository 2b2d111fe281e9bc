/-- field: one answer -/
def ps_fa (C : Int32) (K V N : Nat → Int32) (p q : Int32) : Int32 :=
  if q < 0 then -1 else if ¬ q ≤ 3 then -1 else if p < 0 ∨ ¬ p < C then (if q = 3 then -1 else 0)
  else if q = 0 then K p.toNatClampNeg else if q = 1 then V p.toNatClampNeg else if q = 2 then N p.toNatClampNeg else p
theorem px_fi {tT wS rL sg gR hd lW lv oN ur cR : Int32} {K V N nx ws fo pr rs fs rc mh : Nat → Int32} {post : Int32 → Prop} {c : Nat} {p q : Int32} (hc : c ≤ 64) (hp : post (ps_fa (nI c) K V N p q)) : wpX_field post (tT, wS, rL, sg, nI c, gR, hd, lW, lv, oN, ur, cR, K, V, N, nx, ws, fo, pr, rs, fs, rc, mh) p q := by
  unfold ps_fa at hp
  by_cases q0 : q < 0
  · rw [if_pos q0] at hp; exact br_t q0 hp
  rw [if_neg q0] at hp
  refine br_f q0 ?_
  by_cases q3 : q ≤ 3
  · rw [if_neg (not_not_intro q3)] at hp
    refine br_t q3 ?_
    by_cases p0 : p < 0
    · rw [if_pos (Or.inl p0)] at hp
      refine br_t p0 ?_
      by_cases e3 : q = 3
      · rw [if_pos e3] at hp; exact br_t e3 hp
      · rw [if_neg e3] at hp; exact br_f e3 hp
    · refine br_f p0 ?_
      by_cases pc : p < nI c
      · rw [if_neg (fun z => z.elim p0 (fun y => y pc))] at hp
        obtain ⟨j, hj, ej⟩ := nI_of p0
        have jc : j < c := by rw [ej] at pc; exact (nI_ltI hj (by omega)).1 pc
        have ip : vp_in p 64 := by rw [ej]; exact vp_in_nI (by omega) (by decide)
        refine br_t pc (br_f q0 ?_)
        by_cases q2 : 2 < q
        · have n0 : ¬ q = 0 := fun z => by rw [z] at q2; exact absurd q2 (by decide)
          have n1 : ¬ q = 1 := fun z => by rw [z] at q2; exact absurd q2 (by decide)
          have n2 : ¬ q = 2 := fun z => by rw [z] at q2; exact absurd q2 (by decide)
          rw [if_neg n0, if_neg n1, if_neg n2] at hp
          exact br_t q2 hp
        · refine br_f q2 ?_
          by_cases n0 : q = 0
          · rw [if_pos n0] at hp; exact br_t n0 ⟨ip, hp⟩
          · rw [if_neg n0] at hp
            refine br_f n0 ?_
            by_cases n1 : q = 1
            · rw [if_pos n1] at hp; exact br_t n1 ⟨ip, hp⟩
            · rw [if_neg n1] at hp
              refine br_f n1 ?_
              by_cases n2 : q = 2
              · rw [if_pos n2] at hp; exact br_t n2 ⟨ip, hp⟩
              · exact br_f n2 trivial
      · rw [if_pos (Or.inr pc)] at hp
        refine br_f pc ?_
        by_cases e3 : q = 3
        · rw [if_pos e3] at hp; exact br_t e3 hp
        · rw [if_neg e3] at hp; exact br_f e3 hp
  · rw [if_pos q3] at hp; exact br_f q3 hp
theorem ps_hN {T W A c R : Nat} {rn : Nat → Nat} {N : Nat → Int32} (HC : ps_Com T W A c R rn N) : c ≤ 64 ∧ R ≤ 32 ∧ (∀ x, x < c → N x = nI (rn x) ∧ rn x < 1000) ∧ (∀ x, x < c → N x = nI (rn x) ∧ 1 ≤ rn x ∧ rn x ≤ 64) := by
  obtain ⟨_, _, _, _, a6, ca, hN, hR⟩ := HC
  have h32 := ps_R32 hR (by omega)
  refine ⟨by omega, h32, fun x hx => ⟨hN x hx, ?_⟩, fun x hx => ⟨hN x hx, ?_⟩⟩
  · have := hR.1 x hx; omega
  · have := hR.1 x hx; omega
