/-! X: differ, since -/
noncomputable def mv_d1 (lo hi : Int32) (m : List mv_P) (p : mv_P) : Int32 := by
  classical exact if mv_wi lo hi p.1 then (if mv_lk p.1 m = some p.2 then 0 else 1) else 0
noncomputable def mv_d2 (lo hi : Int32) (m : List mv_P) (p : mv_P) : Int32 := by
  classical exact if mv_wi lo hi p.1 then (if mv_lk p.1 m = none then 1 else 0) else 0
theorem mv_d1f {lo hi : Int32} {m : List mv_P} {p : mv_P} (h : ¬ mv_wi lo hi p.1) : mv_d1 lo hi m p = 0 := if_neg h
theorem mv_d1a {lo hi : Int32} {m : List mv_P} {p : mv_P} (h : mv_wi lo hi p.1) (e : mv_lk p.1 m = some p.2) : mv_d1 lo hi m p = 0 := (if_pos h).trans (if_pos e)
theorem mv_d1b {lo hi : Int32} {m : List mv_P} {p : mv_P} (h : mv_wi lo hi p.1) (e : ¬ mv_lk p.1 m = some p.2) : mv_d1 lo hi m p = 1 := (if_pos h).trans (if_neg e)
theorem mv_d2f {lo hi : Int32} {m : List mv_P} {p : mv_P} (h : ¬ mv_wi lo hi p.1) : mv_d2 lo hi m p = 0 := if_neg h
theorem mv_d2a {lo hi : Int32} {m : List mv_P} {p : mv_P} (h : mv_wi lo hi p.1) (e : mv_lk p.1 m = none) : mv_d2 lo hi m p = 1 := (if_pos h).trans (if_pos e)
theorem mv_d2b {lo hi : Int32} {m : List mv_P} {p : mv_P} (h : mv_wi lo hi p.1) (e : ¬ mv_lk p.1 m = none) : mv_d2 lo hi m p = 0 := (if_pos h).trans (if_neg e)
theorem mv_X_chl {post : Int32 → Prop} {lo hi : Int32} {s z n : Nat} {o c cs : Int32} {K V S : Nat → Int32} {m : List mv_P} (hs : s < 41) (hz : z < 41) (hm : mv_ok K V S z m) (hS : S s = nI n) (hn : n ≤ 28) : ∀ (t : List mv_P) (i : Nat) (x : Int32), i + t.length = n → mv_rn K V (s * 28 + i) t → post (x + mv_sm (mv_d1 lo hi m) t) → wX_countChanged_13 post lo hi (nI s) (nI z) (nI (s * 28)) o c cs K V S (t.length + 1) x (nI i) := by
  intro t
  induction t with
  | nil =>
    intro i x h hr hp
    have h' : i = n := by simpa using h
    rw [mv_sm, Int32.add_zero] at hp
    rw [wX_countChanged_13]
    dsimp only
    rw [nI_clamp (n := s) (by omega), hS]
    exact ⟨vp_in_nI hs (by omega), br_t (nI_le (by omega) (by omega)) hp⟩
  | cons p t ih =>
    intro i x h hr hp
    rw [List.length_cons] at h
    obtain ⟨hK, hV, hr'⟩ := hr
    rw [mv_sm, mv_ad] at hp
    rw [List.length_cons, wX_countChanged_13]
    dsimp only
    rw [nI_clamp (n := s) (by omega), hS, nI_add, nI_clamp (n := s * 28 + i) (by omega), hK, hV]
    refine ⟨vp_in_nI hs (by omega), br_f (nI_ge (by omega) (by omega)) ⟨vp_in_nI (by omega) (by omega), nm_e ?_⟩⟩
    refine mv_X_wi (fun a => br_t rfl (nm_r (nI_1 i) ?_)) (fun a => br_f (by decide) ⟨vp_in_nI (by omega) (by omega), mv_X_ho hz hm (fun b => br_t rfl (nm_e (nm_r (nI_1 i) ?_))) (fun b => br_f (by decide) (nm_r (nI_1 i) ?_))⟩)
    · rw [mv_d1f a, Int32.add_zero] at hp
      exact ih (i + 1) x (by omega) hr' hp
    · rw [mv_d1b a b] at hp
      exact ih (i + 1) (x + 1) (by omega) hr' hp
    · rw [mv_d1a a b, Int32.add_zero] at hp
      exact ih (i + 1) x (by omega) hr' hp
theorem mv_X_lal {post : Int32 → Prop} {lo hi : Int32} {s z n : Nat} {o c cs : Int32} {K V S : Nat → Int32} {m : List mv_P} (hs : s < 41) (hz : z < 41) (hm : mv_ok K V S z m) (hS : S s = nI n) (hn : n ≤ 28) : ∀ (t : List mv_P) (i : Nat) (x : Int32), i + t.length = n → mv_rn K V (s * 28 + i) t → post (x + mv_sm (mv_d2 lo hi m) t) → wX_countLacking_13 post lo hi (nI s) (nI z) (nI (s * 28)) o c cs K V S (t.length + 1) x (nI i) := by
  intro t
  induction t with
  | nil =>
    intro i x h hr hp
    have h' : i = n := by simpa using h
    rw [mv_sm, Int32.add_zero] at hp
    rw [wX_countLacking_13]
    dsimp only
    rw [nI_clamp (n := s) (by omega), hS]
    exact ⟨vp_in_nI hs (by omega), br_t (nI_le (by omega) (by omega)) hp⟩
  | cons p t ih =>
    intro i x h hr hp
    rw [List.length_cons] at h
    obtain ⟨hK, hV, hr'⟩ := hr
    rw [mv_sm, mv_ad] at hp
    rw [List.length_cons, wX_countLacking_13]
    dsimp only
    rw [nI_clamp (n := s) (by omega), hS, nI_add, nI_clamp (n := s * 28 + i) (by omega), hK]
    refine ⟨vp_in_nI hs (by omega), br_f (nI_ge (by omega) (by omega)) ⟨vp_in_nI (by omega) (by omega), nm_e ?_⟩⟩
    refine mv_X_wi (fun a => br_t rfl (nm_r (nI_1 i) ?_)) (fun a => br_f (by decide) (mv_X_cell hz hm (fun b => br_t rfl (nm_e (nm_r (nI_1 i) ?_))) (fun d hd b => br_f (mv_n1 (by omega)) (nm_r (nI_1 i) ?_))))
    · rw [mv_d2f a, Int32.add_zero] at hp
      exact ih (i + 1) x (by omega) hr' hp
    · rw [mv_d2a a b] at hp
      exact ih (i + 1) (x + 1) (by omega) hr' hp
    · rw [mv_d2b a (by rw [b]; intro z; cases z), Int32.add_zero] at hp
      exact ih (i + 1) x (by omega) hr' hp
theorem mv_X_ch {post : Int32 → Prop} {lo hi : Int32} {s z : Nat} {o c cs : Int32} {K V S : Nat → Int32} {l m : List mv_P} (hs : s < 41) (hz : z < 41) (hl : mv_ok K V S s l) (hm : mv_ok K V S z m) (hp : post (mv_sm (mv_d1 lo hi m) l)) : wpX_countChanged post (o, c, cs, K, V, S) lo hi (nI s) (nI z) := by
  unfold wpX_countChanged
  refine mv_X_fc ⟨_, mv_X_chl hs hz hm hl.1 hl.2.1 l 0 0 (by omega) hl.2.2 ?_⟩
  rw [Int32.zero_add]
  exact hp
theorem mv_X_la {post : Int32 → Prop} {lo hi : Int32} {s z : Nat} {o c cs : Int32} {K V S : Nat → Int32} {l m : List mv_P} (hs : s < 41) (hz : z < 41) (hl : mv_ok K V S s l) (hm : mv_ok K V S z m) (hp : post (mv_sm (mv_d2 lo hi m) l)) : wpX_countLacking post (o, c, cs, K, V, S) lo hi (nI s) (nI z) := by
  unfold wpX_countLacking
  refine mv_X_fc ⟨_, mv_X_lal hs hz hm hl.1 hl.2.1 l 0 0 (by omega) hl.2.2 ?_⟩
  rw [Int32.zero_add]
  exact hp
theorem mv_X_di {post : Int32 → Prop} {lo hi : Int32} {old cur w y : Nat} {K V S : Nat → Int32} {l m : List mv_P} (hc : cur < 2 ^ 30) (h1 : old ≤ w) (h2 : w ≤ cur) (g1 : old ≤ y) (g2 : y ≤ cur) (h3 : cur ≤ old + 40) (hl : mv_ok K V S (w % 41) l) (hm : mv_ok K V S (y % 41) m) (hp : post (mv_sm (mv_d1 lo hi m) l + mv_sm (mv_d2 lo hi l) m)) : wpX_differ post (nI old, nI cur, nI (cur % 41), K, V, S) lo hi (nI w) (nI y) := by
  unfold wpX_differ
  exact mv_X_kt (by omega) h1 h2 (br_f (by decide) (mv_X_kt (by omega) g1 g2 (br_f (by decide) (mv_X_sl hc (by omega) h2 (mv_X_sl hc (by omega) g2 (mv_X_ch (by omega) (by omega) hl hm (mv_X_la (by omega) (by omega) hm hl hp)))))))
/-- since: a is how far back the value has stood -/
theorem mv_X_sil {post : Int32 → Prop} {k v : Int32} {old cur a : Nat} {K V S : Nat → Int32} {L : Nat → List mv_P} (hc : cur < 2 ^ 30) (h0 : old ≤ cur) (h3 : cur ≤ old + 40) (hL : ∀ w, old ≤ w → w ≤ cur → mv_ok K V S (w % 41) (L w)) (ha : a ≤ cur - old) (hy : ∀ j, j < a → mv_lk k (L (cur - (j + 1))) = some v) (hn : a = cur - old ∨ ¬ mv_lk k (L (cur - (a + 1))) = some v) (hp : post (nI (cur - a))) : ∀ (d j : Nat), j + d = a → wX_since_31 post k v (nI old) (nI cur) (nI (cur % 41)) K V S (d + 1) (nI j) (nI (j + 1)) := by
  intro d
  induction d with
  | zero =>
    intro j hj
    have e : j = a := by omega
    subst e
    rw [wX_since_31]
    dsimp only
    rw [pk_sub h0, pk_sub (show j ≤ cur from by omega)]
    by_cases q : j = cur - old
    · exact br_t (nI_lt (by omega) (by omega)) hp
    · have q2 : ¬ mv_lk k (L (cur - (j + 1))) = some v := by
        cases hn with
        | inl z => exact absurd z q
        | inr z => exact z
      rw [pk_sub (show j + 1 ≤ cur from by omega)]
      exact br_f (nI_nlt (by omega) (by omega)) (mv_X_sl hc (by omega) (by omega) (mv_X_ho (by omega) (hL _ (by omega) (by omega)) (fun _ => br_t rfl hp) (fun z => absurd z q2)))
  | succ d ih =>
    intro j hj
    have q2 := hy j (by omega)
    rw [wX_since_31]
    dsimp only
    rw [pk_sub h0, pk_sub (show j + 1 ≤ cur from by omega)]
    exact br_f (nI_nlt (by omega) (by omega)) (mv_X_sl hc (by omega) (by omega) (mv_X_ho (by omega) (hL _ (by omega) (by omega)) (fun z => absurd q2 z) (fun _ => br_f (by decide) (nm_r (nI_1 (j + 1)) (ih (j + 1) (by omega))))))
theorem mv_X_si0 {post : Int32 → Prop} {k : Int32} {old cur : Nat} {K V S : Nat → Int32} {l : List mv_P} (h : mv_ok K V S (cur % 41) l) (e : mv_lk k l = none) (hp : post (-2)) : wpX_since post (nI old, nI cur, nI (cur % 41), K, V, S) k := by
  unfold wpX_since
  refine mv_X_cell (by omega) h (fun _ => br_t rfl hp) (fun d _ b => ?_)
  rw [e] at b
  cases b
theorem mv_X_si1 {post : Int32 → Prop} {k v : Int32} {old cur a : Nat} {K V S : Nat → Int32} {L : Nat → List mv_P} (hc : cur < 2 ^ 30) (h0 : old ≤ cur) (h3 : cur ≤ old + 40) (hL : ∀ w, old ≤ w → w ≤ cur → mv_ok K V S (w % 41) (L w)) (e : mv_lk k (L cur) = some v) (ha : a ≤ cur - old) (hy : ∀ j, j < a → mv_lk k (L (cur - (j + 1))) = some v) (hn : a = cur - old ∨ ¬ mv_lk k (L (cur - (a + 1))) = some v) (hp : post (nI (cur - a))) : wpX_since post (nI old, nI cur, nI (cur % 41), K, V, S) k := by
  unfold wpX_since
  refine mv_X_cell (by omega) (hL cur h0 (by omega)) (fun z => ?_) (fun d hd b => br_f (mv_n1 (by omega)) ⟨vp_in_nI hd (by omega), ?_⟩)
  · rw [e] at z
    cases z
  · rw [nI_clamp (by omega)]
    rw [e] at b
    exact nm_r (Option.some.inj b).symm ⟨_, mv_X_sil hc h0 h3 hL ha hy hn hp a 0 (by omega)⟩
