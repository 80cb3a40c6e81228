/-! Y: differ, since -/
noncomputable def mv_d3 (lo hi : Int32) (m : List mv_P) (p : mv_P) : Int32 := by
  classical exact if mv_wi lo hi p.1 then (if mv_lk p.1 m = none then 1 else if mv_lk p.1 m = some p.2 then -1 else 0) else 0
theorem mv_d3f {lo hi : Int32} {m : List mv_P} {p : mv_P} (h : ¬ mv_wi lo hi p.1) : mv_d3 lo hi m p = 0 := if_neg h
theorem mv_d3a {lo hi : Int32} {m : List mv_P} {p : mv_P} (h : mv_wi lo hi p.1) (e : mv_lk p.1 m = none) : mv_d3 lo hi m p = 1 := (if_pos h).trans (if_pos e)
theorem mv_d3b {lo hi : Int32} {m : List mv_P} {p : mv_P} (h : mv_wi lo hi p.1) (e : ¬ mv_lk p.1 m = none) (e' : mv_lk p.1 m = some p.2) : mv_d3 lo hi m p = -1 := ((if_pos h).trans (if_neg e)).trans (if_pos e')
theorem mv_d3c {lo hi : Int32} {m : List mv_P} {p : mv_P} (h : mv_wi lo hi p.1) (e : ¬ mv_lk p.1 m = none) (e' : ¬ mv_lk p.1 m = some p.2) : mv_d3 lo hi m p = 0 := ((if_pos h).trans (if_neg e)).trans (if_neg e')
theorem mv_gv_eq {x : Option Int32} {v : Int32} (h : ¬ x = none) : mv_gv x = v ↔ x = some v := by
  cases x with
  | none => exact absurd rfl h
  | some y => exact ⟨fun e => congrArg some e, fun e => Option.some.inj e⟩
theorem mv_Y_dil {post : Int32 → Prop} {lo hi : Int32} {s n old cur y : Nat} {K V S : Nat → Int32} {m : List mv_P} (hc : cur < 2 ^ 30) (g1 : old ≤ y) (g2 : y ≤ cur) (h3 : cur ≤ old + 40) (hs : s < 41) (hm : mv_ok K V S (y - old) m) (hS : S s = nI n) (hn : n ≤ 28) : ∀ (t : List mv_P) (i : Nat) (x : Int32), i + t.length = n → mv_rn K V (s * 28 + i) t → post (x + mv_sm (mv_d3 lo hi m) t) → wY_differ_41 post lo hi (nI y) (nI s) (nI old) (nI cur) K V S (t.length + 1) x (nI i) := by
  intro t
  induction t with
  | nil =>
    intro i x h hr hp
    have h' : i = n := by simpa using h
    rw [mv_sm, Int32.add_zero] at hp
    rw [wY_differ_41]
    dsimp only
    rw [nI_clamp (n := s) (by omega), hS]
    exact ⟨vp_in_nI hs (by omega), br_t (nI_le (by omega) (by omega)) hp⟩
  | cons p t ih =>
    intro i x h hr hp
    rw [List.length_cons] at h
    obtain ⟨hK, hV, hr'⟩ := hr
    rw [mv_sm, mv_ad] at hp
    rw [List.length_cons, wY_differ_41]
    dsimp only
    rw [nI_clamp (n := s) (by omega), hS, mv_m28, nI_add, nI_clamp (n := s * 28 + i) (by omega), hK, hV]
    have hi' : vp_in (nI (s * 28 + i)) 1148 := vp_in_nI (by omega) (by omega)
    refine ⟨vp_in_nI hs (by omega), br_f (nI_ge (by omega) (by omega)) ⟨hi', nm_e ?_⟩⟩
    refine br_c (fun a => nm_r (nI_1 i) ?_) (fun a => br_c (fun b => nm_r (nI_1 i) ?_) (fun b => mv_Y_has hc g1 g2 h3 hm ?_))
    · rw [mv_d3f (fun z => z.1 a), Int32.add_zero] at hp
      exact ih (i + 1) x (by omega) hr' hp
    · rw [mv_d3f (fun z => z.2 b), Int32.add_zero] at hp
      exact ih (i + 1) x (by omega) hr' hp
    · by_cases e : mv_lk p.1 m = none
      · rw [mv_hb, if_pos e]
        rw [mv_d3a ⟨a, b⟩ e] at hp
        exact br_t rfl (nm_e (nm_r (nI_1 i) (ih (i + 1) (x + 1) (by omega) hr' hp)))
      · rw [mv_hb, if_neg e]
        refine br_f (by decide) (mv_Y_get hc g1 g2 h3 hm ⟨hi', br_c (fun q => nm_r (Int32.sub_eq_add_neg x 1) (nm_r (nI_1 i) ?_)) (fun q => nm_r (nI_1 i) ?_)⟩)
        · rw [mv_d3b ⟨a, b⟩ e ((mv_gv_eq e).mp q)] at hp
          exact ih (i + 1) (x + -1) (by omega) hr' hp
        · rw [mv_d3c ⟨a, b⟩ e (fun z => q ((mv_gv_eq e).mpr z)), Int32.add_zero] at hp
          exact ih (i + 1) x (by omega) hr' hp
theorem mv_Y_di {post : Int32 → Prop} {lo hi : Int32} {old cur w y : Nat} {K V S : Nat → Int32} {l m : List mv_P} (hc : cur < 2 ^ 30) (h1 : old ≤ w) (h2 : w ≤ cur) (g1 : old ≤ y) (g2 : y ≤ cur) (h3 : cur ≤ old + 40) (hl : mv_ok K V S (w - old) l) (hm : mv_ok K V S (y - old) m) (hp : post (mv_sm (mv_c1 lo hi) m + mv_sm (mv_d3 lo hi m) l)) : wpY_differ post (nI old, nI cur, K, V, S) lo hi (nI w) (nI y) := by
  unfold wpY_differ
  exact mv_Y_kt (by omega) h1 h2 (br_f (by decide) (mv_Y_kt (by omega) g1 g2 (br_f (by decide) (mv_Y_cnt hc g1 g2 h3 hm (nm_r (pk_sub h1) ⟨_, mv_Y_dil hc g1 g2 h3 (by omega) hm hl.1 hl.2.1 l 0 _ (by omega) hl.2.2 hp⟩)))))
theorem mv_Y_si0 {post : Int32 → Prop} {k : Int32} {old cur : Nat} {K V S : Nat → Int32} {l : List mv_P} (hc : cur < 2 ^ 30) (h0 : old ≤ cur) (h3 : cur ≤ old + 40) (h : mv_ok K V S (cur - old) l) (e : mv_lk k l = none) (hp : post (-2)) : wpY_since post (nI old, nI cur, K, V, S) k := by
  unfold wpY_since
  refine mv_Y_has hc h0 (by omega) h3 h ?_
  rw [mv_hb, if_pos e]
  exact br_t rfl hp
theorem mv_lm1 {old : Nat} (h : old < 2 ^ 30) : nI old - 1 < nI old := by
  rw [Int32.lt_iff_toInt_lt, show (1 : Int32) = nI 1 from rfl, pk_sub_toInt (by omega) (by omega), nI_toInt (by omega)]
  omega
theorem mv_Y_sil {post : Int32 → Prop} {k v : Int32} {old cur a : Nat} {K V S : Nat → Int32} {L : Nat → List mv_P} (hc : cur < 2 ^ 30) (h0 : old ≤ cur) (h3 : cur ≤ old + 40) (hL : ∀ w, old ≤ w → w ≤ cur → mv_ok K V S (w - old) (L w)) (e : mv_lk k (L cur) = some v) (ha : a ≤ cur - old) (hy : ∀ j, j < a → mv_lk k (L (cur - (j + 1))) = some v) (hn : a = cur - old ∨ ¬ mv_lk k (L (cur - (a + 1))) = some v) (hp : post (nI (cur - a))) : ∀ (d i j : Nat), i + d = 40 → j ≤ a → a - j ≤ d → wY_since_22 post k (nI old) (nI cur) K V S (d + 1) (nI (cur - j)) (nI i) := by
  intro d
  induction d with
  | zero =>
    intro i j hi hj hd
    have e : j = a := by omega
    subst e
    rw [wY_since_22]
    dsimp only
    exact br_t (nI_le (a := 40) (by omega) (by omega)) hp
  | succ d ih =>
    intro i j hi hj hd
    rw [wY_since_22]
    dsimp only
    refine br_f (nI_ge (b := 40) (by omega) (by omega)) ?_
    by_cases q : j = cur - old
    · rw [show cur - j = old from by omega]
      refine mv_Y_has0 (Or.inl (mv_lm1 (by omega))) (br_t rfl (nm_r (nI_1 i) ?_))
      have r := ih (i + 1) j (by omega) hj (by omega)
      rw [show cur - j = old from by omega] at r
      exact r
    · rw [show nI (cur - j) - 1 = nI (cur - (j + 1)) from by rw [show cur - j = cur - (j + 1) + 1 from by omega, nI_pred]]
      have w1 : old ≤ cur - (j + 1) := by omega
      have w2 : cur - (j + 1) ≤ cur := by omega
      refine mv_Y_has hc w1 w2 h3 (hL _ w1 w2) ?_
      by_cases z : mv_lk k (L (cur - (j + 1))) = none
      · rw [mv_hb, if_pos z]
        have ja : ¬ j < a := fun t => by
          have t2 := hy j t
          rw [z] at t2
          cases t2
        exact br_t rfl (nm_r (nI_1 i) (ih (i + 1) j (by omega) hj (by omega)))
      · rw [mv_hb, if_neg z]
        refine br_f (by decide) (mv_Y_get hc w1 w2 h3 (hL _ w1 w2) (mv_Y_get hc h0 (by omega) h3 (hL _ h0 (by omega)) ?_))
        rw [e]
        refine br_c (fun t => ?_) (fun t => nm_r (nI_1 i) ?_)
        · have t2 : mv_lk k (L (cur - (j + 1))) = some v := (mv_gv_eq z).mp t
          have ja : j ≠ a := by
            intro t3
            subst t3
            cases hn with
            | inl t4 => exact q t4
            | inr t4 => exact t4 t2
          exact nm_e (nm_r (nI_1 i) (ih (i + 1) (j + 1) (by omega) (by omega) (by omega)))
        · have ja : ¬ j < a := fun t3 => t ((mv_gv_eq z).mpr (hy j t3))
          exact ih (i + 1) j (by omega) hj (by omega)
theorem mv_Y_si1 {post : Int32 → Prop} {k v : Int32} {old cur a : Nat} {K V S : Nat → Int32} {L : Nat → List mv_P} (hc : cur < 2 ^ 30) (h0 : old ≤ cur) (h3 : cur ≤ old + 40) (hL : ∀ w, old ≤ w → w ≤ cur → mv_ok K V S (w - old) (L w)) (e : mv_lk k (L cur) = some v) (ha : a ≤ cur - old) (hy : ∀ j, j < a → mv_lk k (L (cur - (j + 1))) = some v) (hn : a = cur - old ∨ ¬ mv_lk k (L (cur - (a + 1))) = some v) (hp : post (nI (cur - a))) : wpY_since post (nI old, nI cur, K, V, S) k := by
  unfold wpY_since
  refine mv_Y_has hc h0 (by omega) h3 (hL _ h0 (by omega)) ?_
  rw [e, show mv_hb (some v) = 1 from if_neg (by intro z; cases z)]
  exact br_f (by decide) ⟨_, mv_Y_sil hc h0 h3 hL e ha hy hn hp 40 0 0 (by omega) (by omega) (by omega)⟩
