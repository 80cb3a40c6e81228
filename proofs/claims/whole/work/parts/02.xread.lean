/-! X: what only reads -/
theorem mv_nb0 : narrow .boolean (.int 0) = .int 0 := by rfl
theorem mv_nb1 : narrow .boolean (.int 1) = .int 1 := by rfl
theorem mv_X_wi {post : Int32 → Prop} {u : SX} {k lo hi : Int32} (h0 : ¬ mv_wi lo hi k → post 0) (h1 : mv_wi lo hi k → post 1) : wpX_isWithin post u k lo hi := by
  unfold wpX_isWithin
  exact br_c (fun a => h0 (fun z => z.1 a)) (fun a => br_c (fun b => h0 (fun z => z.2 b)) (fun b => h1 ⟨a, b⟩))
theorem mv_X_key {post : Int32 → Prop} {u : SX} {k : Int32} (h0 : ¬ mv_wi (-1000) 1000 k → post 0) (h1 : mv_wi (-1000) 1000 k → post 1) : wpX_isKey post u k := by
  unfold wpX_isKey
  exact mv_X_wi (fun a => ⟨mv_nb0, h0 a⟩) (fun a => ⟨mv_nb1, h1 a⟩)
theorem mv_X_kf {post : Int32 → Prop} {o c cs : Int32} {K V S : Nat → Int32} {x : Int32} (h : x < o ∨ c < x) (hp : post 0) : wpX_isKept post (o, c, cs, K, V, S) x := by
  unfold wpX_isKept
  dsimp only
  refine mv_X_wi (fun a => ⟨mv_nb0, hp⟩) (fun a => ?_)
  cases h with
  | inl b => exact absurd b a.1
  | inr b => exact absurd b a.2
theorem mv_X_kt {post : Int32 → Prop} {old cur w : Nat} {cs : Int32} {K V S : Nat → Int32} (hc : cur < 2 ^ 31) (h1 : old ≤ w) (h2 : w ≤ cur) (hp : post 1) : wpX_isKept post (nI old, nI cur, cs, K, V, S) (nI w) := by
  unfold wpX_isKept
  dsimp only
  refine mv_X_wi (fun a => ?_) (fun a => ⟨mv_nb1, hp⟩)
  exact absurd ⟨nI_nlt h1 (by omega), nI_nlt h2 hc⟩ a
theorem mv_X_sl {post : Int32 → Prop} {o : Int32} {cur w : Nat} {K V S : Nat → Int32} (hc : cur < 2 ^ 30) (h1 : cur ≤ w + 40) (h2 : w ≤ cur) (hp : post (nI (w % 41))) : wpX_slotOf post (o, nI cur, nI (cur % 41), K, V, S) (nI w) := by
  unfold wpX_slotOf
  dsimp only
  rw [pk_sub h2]
  by_cases h : cur - w ≤ cur % 41
  · rw [pk_sub h, show cur % 41 - (cur - w) = w % 41 from by omega]
    exact nm_e (br_t (nI_pos' (by omega)) hp)
  · refine nm_e (br_f (Int32.not_le.mpr (pk_sneg (by omega) (by omega))) ?_)
    have e : nI (cur % 41) - nI (cur - w) + 41 = nI (w % 41) := by
      have e1 : nI (cur % 41) - nI (cur - w) + 41 = nI (cur % 41) + nI 41 - nI (cur - w) := by
        show nI (cur % 41) - nI (cur - w) + nI 41 = nI (cur % 41) + nI 41 - nI (cur - w)
        generalize nI (cur % 41) = a
        generalize nI (cur - w) = b
        generalize nI 41 = c
        grind
      rw [e1, nI_add, pk_sub (by omega)]
      exact congrArg nI (by omega)
    rw [e]
    exact hp
theorem mv_X_fc {post : Int32 → Prop} {u : SX} {s : Nat} (hp : post (nI (s * 28))) : wpX_firstCell post u (nI s) := by
  unfold wpX_firstCell
  dsimp only
  rw [mv_m28]
  exact hp
theorem mv_X_cl {post : Int32 → Prop} {k : Int32} {s n : Nat} {o c cs : Int32} {K V S : Nat → Int32} (hs : s < 41) (hS : S s = nI n) (hn : n ≤ 28) : ∀ (t : List mv_P) (i : Nat), i + t.length = n → mv_rn K V (s * 28 + i) t → post (mv_fd k (s * 28 + i) t) → wX_cellOf_9 post k (nI s) (nI (s * 28)) o c cs K V S (t.length + 1) (nI i) := by
  intro t
  induction t with
  | nil =>
    intro i h hr hp
    have h' : i = n := by simpa using h
    rw [wX_cellOf_9]
    dsimp only
    rw [nI_clamp (n := s) (by omega), hS]
    exact ⟨vp_in_nI hs (by omega), br_t (nI_le (by omega) (by omega)) hp⟩
  | cons p t ih =>
    intro i h hr hp
    rw [List.length_cons] at h
    obtain ⟨hK, hV, hr'⟩ := hr
    rw [List.length_cons, wX_cellOf_9]
    dsimp only
    rw [nI_clamp (n := s) (by omega), hS, nI_add, nI_clamp (n := s * 28 + i) (by omega), hK]
    refine ⟨vp_in_nI hs (by omega), br_f (nI_ge (by omega) (by omega)) ⟨vp_in_nI (by omega) (by omega), ?_⟩⟩
    rw [mv_fd] at hp
    by_cases e : p.1 = k
    · rw [if_pos e] at hp
      exact br_t e hp
    · rw [if_neg e] at hp
      exact br_f e (nm_r (nI_1 i) (ih (i + 1) (by omega) hr' hp))
theorem mv_X_cf {post : Int32 → Prop} {k : Int32} {s : Nat} {o c cs : Int32} {K V S : Nat → Int32} {l : List mv_P} (hs : s < 41) (h : mv_ok K V S s l) (hp : post (mv_fd k (s * 28) l)) : wpX_cellOf post (o, c, cs, K, V, S) k (nI s) := by
  unfold wpX_cellOf
  exact mv_X_fc ⟨_, mv_X_cl hs h.1 h.2.1 l 0 (by omega) h.2.2 hp⟩
theorem mv_X_cell {post : Int32 → Prop} {k : Int32} {s : Nat} {o c cs : Int32} {K V S : Nat → Int32} {l : List mv_P} (hs : s < 41) (h : mv_ok K V S s l) (h0 : mv_lk k l = none → post (-1)) (h1 : ∀ d, d < 1148 → mv_lk k l = some (V d) → post (nI d)) : wpX_cellOf post (o, c, cs, K, V, S) k (nI s) := by
  refine mv_X_cf hs h ?_
  cases mv_fl k h.2.2 with
  | inl a => rw [a.2]; exact h0 a.1
  | inr a =>
    obtain ⟨d, d1, d2, d3, d4⟩ := a
    have := h.2.1
    rw [d3]
    exact h1 d (by omega) d4
theorem mv_X_ho {post : Int32 → Prop} {k v : Int32} {s : Nat} {o c cs : Int32} {K V S : Nat → Int32} {l : List mv_P} (hs : s < 41) (h : mv_ok K V S s l) (h0 : ¬ mv_lk k l = some v → post 0) (h1 : mv_lk k l = some v → post 1) : wpX_holds post (o, c, cs, K, V, S) k v (nI s) := by
  unfold wpX_holds
  refine mv_X_cell hs h (fun a => br_t rfl (h0 (by rw [a]; intro z; cases z))) (fun d hd a => br_f (mv_n1 (by omega)) ⟨vp_in_nI hd (by omega), ?_⟩)
  rw [nI_clamp (by omega)]
  exact br_c (fun b => h1 (by rw [a, b])) (fun b => h0 (by rw [a]; intro z; exact b (Option.some.inj z)))
theorem mv_X_has {post : Int32 → Prop} {k : Int32} {old cur w : Nat} {K V S : Nat → Int32} {l : List mv_P} (hc : cur < 2 ^ 30) (h1 : old ≤ w) (h2 : w ≤ cur) (h3 : cur ≤ old + 40) (h : mv_ok K V S (w % 41) l) (hp : post (mv_hb (mv_lk k l))) : wpX_has post (nI old, nI cur, nI (cur % 41), K, V, S) k (nI w) := by
  unfold wpX_has
  refine mv_X_kt (by omega) h1 h2 (br_f (by decide) (mv_X_sl hc (by omega) h2 (mv_X_cell (by omega) h (fun a => br_t rfl ?_) (fun d hd a => br_f (mv_n1 (by omega)) ?_))))
  · rw [a] at hp; exact hp
  · rw [a] at hp; exact hp
theorem mv_X_get {post : Int32 → Prop} {k : Int32} {old cur w : Nat} {K V S : Nat → Int32} {l : List mv_P} (hc : cur < 2 ^ 30) (h1 : old ≤ w) (h2 : w ≤ cur) (h3 : cur ≤ old + 40) (h : mv_ok K V S (w % 41) l) (hp : post (mv_gv (mv_lk k l))) : wpX_get post (nI old, nI cur, nI (cur % 41), K, V, S) k (nI w) := by
  unfold wpX_get
  refine mv_X_kt (by omega) h1 h2 (br_f (by decide) (mv_X_sl hc (by omega) h2 (mv_X_cell (by omega) h (fun a => br_t rfl ?_) (fun d hd a => br_f (mv_n1 (by omega)) ⟨vp_in_nI hd (by omega), ?_⟩))))
  · rw [a] at hp; exact hp
  · rw [nI_clamp (by omega)]; rw [a] at hp; exact hp
noncomputable def mv_c1 (lo hi : Int32) (p : mv_P) : Int32 := by
  classical exact if mv_wi lo hi p.1 then 1 else 0
noncomputable def mv_s1 (lo hi : Int32) (p : mv_P) : Int32 := by
  classical exact if mv_wi lo hi p.1 then p.2 else 0
theorem mv_c1t {lo hi : Int32} {p : mv_P} (h : mv_wi lo hi p.1) : mv_c1 lo hi p = 1 := if_pos h
theorem mv_c1f {lo hi : Int32} {p : mv_P} (h : ¬ mv_wi lo hi p.1) : mv_c1 lo hi p = 0 := if_neg h
theorem mv_s1t {lo hi : Int32} {p : mv_P} (h : mv_wi lo hi p.1) : mv_s1 lo hi p = p.2 := if_pos h
theorem mv_s1f {lo hi : Int32} {p : mv_P} (h : ¬ mv_wi lo hi p.1) : mv_s1 lo hi p = 0 := if_neg h
theorem mv_ad (a b c : Int32) : a + (b + c) = a + b + c := (Int32.add_assoc a b c).symm
theorem mv_X_cntl {post : Int32 → Prop} {lo hi : Int32} {s n : Nat} {o c cs : Int32} {K V S : Nat → Int32} (hs : s < 41) (hS : S s = nI n) (hn : n ≤ 28) : ∀ (t : List mv_P) (i : Nat) (x : Int32), i + t.length = n → mv_rn K V (s * 28 + i) t → post (x + mv_sm (mv_c1 lo hi) t) → wX_count_32 post lo hi (nI s) (nI (s * 28)) o c cs K V S (t.length + 1) x (nI i) := by
  intro t
  induction t with
  | nil =>
    intro i x h hr hp
    have h' : i = n := by simpa using h
    rw [mv_sm, Int32.add_zero] at hp
    rw [wX_count_32]
    dsimp only
    rw [nI_clamp (n := s) (by omega), hS]
    exact ⟨vp_in_nI hs (by omega), br_t (nI_le (by omega) (by omega)) hp⟩
  | cons p t ih =>
    intro i x h hr hp
    rw [List.length_cons] at h
    obtain ⟨hK, hV, hr'⟩ := hr
    rw [mv_sm, mv_ad] at hp
    rw [List.length_cons, wX_count_32]
    dsimp only
    rw [nI_clamp (n := s) (by omega), hS, nI_add, nI_clamp (n := s * 28 + i) (by omega), hK]
    refine ⟨vp_in_nI hs (by omega), br_f (nI_ge (by omega) (by omega)) ⟨vp_in_nI (by omega) (by omega), ?_⟩⟩
    refine mv_X_wi (fun a => br_t rfl (nm_r (nI_1 i) ?_)) (fun a => br_f (by decide) (nm_e (nm_r (nI_1 i) ?_)))
    · rw [mv_c1f a, Int32.add_zero] at hp
      exact ih (i + 1) x (by omega) hr' hp
    · rw [mv_c1t a] at hp
      exact ih (i + 1) (x + 1) (by omega) hr' hp
theorem mv_X_cnt {post : Int32 → Prop} {lo hi : Int32} {old cur w : Nat} {K V S : Nat → Int32} {l : List mv_P} (hc : cur < 2 ^ 30) (h1 : old ≤ w) (h2 : w ≤ cur) (h3 : cur ≤ old + 40) (h : mv_ok K V S (w % 41) l) (hp : post (mv_sm (mv_c1 lo hi) l)) : wpX_count post (nI old, nI cur, nI (cur % 41), K, V, S) lo hi (nI w) := by
  unfold wpX_count
  refine mv_X_kt (by omega) h1 h2 (br_f (by decide) (mv_X_sl hc (by omega) h2 (mv_X_fc ⟨_, mv_X_cntl (by omega) h.1 h.2.1 l 0 0 (by omega) h.2.2 ?_⟩)))
  rw [Int32.zero_add]
  exact hp
theorem mv_X_suml {post : Int32 → Prop} {lo hi : Int32} {s n : Nat} {o c cs : Int32} {K V S : Nat → Int32} (hs : s < 41) (hS : S s = nI n) (hn : n ≤ 28) : ∀ (t : List mv_P) (i : Nat) (x : Int32), i + t.length = n → mv_rn K V (s * 28 + i) t → post (x + mv_sm (mv_s1 lo hi) t) → wX_sum_31 post lo hi (nI s) (nI (s * 28)) o c cs K V S (t.length + 1) x (nI i) := by
  intro t
  induction t with
  | nil =>
    intro i x h hr hp
    have h' : i = n := by simpa using h
    rw [mv_sm, Int32.add_zero] at hp
    rw [wX_sum_31]
    dsimp only
    rw [nI_clamp (n := s) (by omega), hS]
    exact ⟨vp_in_nI hs (by omega), br_t (nI_le (by omega) (by omega)) hp⟩
  | cons p t ih =>
    intro i x h hr hp
    rw [List.length_cons] at h
    obtain ⟨hK, hV, hr'⟩ := hr
    rw [mv_sm, mv_ad] at hp
    rw [List.length_cons, wX_sum_31]
    dsimp only
    rw [nI_clamp (n := s) (by omega), hS, nI_add, nI_clamp (n := s * 28 + i) (by omega), hK, hV]
    refine ⟨vp_in_nI hs (by omega), br_f (nI_ge (by omega) (by omega)) ⟨vp_in_nI (by omega) (by omega), ?_⟩⟩
    refine mv_X_wi (fun a => br_t rfl (nm_r (nI_1 i) ?_)) (fun a => br_f (by decide) ⟨vp_in_nI (by omega) (by omega), nm_e (nm_r (nI_1 i) ?_)⟩)
    · rw [mv_s1f a, Int32.add_zero] at hp
      exact ih (i + 1) x (by omega) hr' hp
    · rw [mv_s1t a] at hp
      exact ih (i + 1) (x + p.2) (by omega) hr' hp
theorem mv_X_sum {post : Int32 → Prop} {lo hi : Int32} {old cur w : Nat} {K V S : Nat → Int32} {l : List mv_P} (hc : cur < 2 ^ 30) (h1 : old ≤ w) (h2 : w ≤ cur) (h3 : cur ≤ old + 40) (h : mv_ok K V S (w % 41) l) (hp : post (mv_sm (mv_s1 lo hi) l)) : wpX_sum post (nI old, nI cur, nI (cur % 41), K, V, S) lo hi (nI w) := by
  unfold wpX_sum
  refine mv_X_kt (by omega) h1 h2 (br_f (by decide) (mv_X_sl hc (by omega) h2 (mv_X_fc ⟨_, mv_X_suml (by omega) h.1 h.2.1 l 0 0 (by omega) h.2.2 ?_⟩)))
  rw [Int32.zero_add]
  exact hp
/-- the first key above k -/
def mv_nx (k : Int32) : List mv_P → Int32
  | [] => 100000
  | p :: t => if p.1 ≤ k then mv_nx k t else p.1
theorem mv_X_nxl {post : Int32 → Prop} {k : Int32} {s n : Nat} {o c cs : Int32} {K V S : Nat → Int32} (hs : s < 41) (hS : S s = nI n) (hn : n ≤ 28) : ∀ (t : List mv_P) (i : Nat), i + t.length = n → mv_rn K V (s * 28 + i) t → post (mv_nx k t) → wX_next_27 post k (nI s) (nI (s * 28)) o c cs K V S (t.length + 1) (nI i) := by
  intro t
  induction t with
  | nil =>
    intro i h hr hp
    have h' : i = n := by simpa using h
    rw [wX_next_27]
    dsimp only
    rw [nI_clamp (n := s) (by omega), hS]
    exact ⟨vp_in_nI hs (by omega), br_t (nI_le (by omega) (by omega)) hp⟩
  | cons p t ih =>
    intro i h hr hp
    rw [List.length_cons] at h
    obtain ⟨hK, hV, hr'⟩ := hr
    rw [List.length_cons, wX_next_27]
    dsimp only
    rw [nI_clamp (n := s) (by omega), hS, nI_add, nI_clamp (n := s * 28 + i) (by omega), hK]
    refine ⟨vp_in_nI hs (by omega), br_f (nI_ge (by omega) (by omega)) ⟨vp_in_nI (by omega) (by omega), ?_⟩⟩
    rw [mv_nx] at hp
    by_cases e : p.1 ≤ k
    · rw [if_pos e] at hp
      exact br_t e (nm_r (nI_1 i) (ih (i + 1) (by omega) hr' hp))
    · rw [if_neg e] at hp
      exact br_f e ⟨vp_in_nI (by omega) (by omega), hp⟩
theorem mv_X_next {post : Int32 → Prop} {k : Int32} {old cur w : Nat} {K V S : Nat → Int32} {l : List mv_P} (hc : cur < 2 ^ 30) (h1 : old ≤ w) (h2 : w ≤ cur) (h3 : cur ≤ old + 40) (h : mv_ok K V S (w % 41) l) (hp : post (mv_nx k l)) : wpX_next post (nI old, nI cur, nI (cur % 41), K, V, S) k (nI w) := by
  unfold wpX_next
  exact mv_X_kt (by omega) h1 h2 (br_f (by decide) (mv_X_sl hc (by omega) h2 (mv_X_fc ⟨_, mv_X_nxl (by omega) h.1 h.2.1 l 0 (by omega) h.2.2 hp⟩)))
theorem mv_X_kat {post : Int32 → Prop} {x : Int32} {old cur w : Nat} {K V S : Nat → Int32} {l : List mv_P} (hc : cur < 2 ^ 30) (h1 : old ≤ w) (h2 : w ≤ cur) (h3 : cur ≤ old + 40) (h : mv_ok K V S (w % 41) l) (h0 : (∀ A p B, l = A ++ p :: B → x ≠ nI A.length) → post 100000) (hp : ∀ A p B, l = A ++ p :: B → x = nI A.length → post p.1) : wpX_keyAt post (nI old, nI cur, nI (cur % 41), K, V, S) x (nI w) := by
  unfold wpX_keyAt
  refine mv_X_kt (by omega) h1 h2 (br_f (by decide) (mv_X_sl hc (by omega) h2 ?_))
  obtain ⟨e1, e2, e3⟩ := h
  refine br_c (fun a => h0 ?_) (fun a => ⟨vp_in_nI (by omega) (by omega), ?_⟩)
  · intro A p B e z
    rw [z] at a
    rw [e, List.length_append, List.length_cons] at e2
    exact nI_pos (by omega) a
  · obtain ⟨i, hi, rfl⟩ := nI_of a
    rw [nI_clamp (by omega), e1]
    refine br_c (fun b => mv_X_fc ?_) (fun b => h0 ?_)
    · rw [nI_ltI hi (by omega)] at b
      rw [nI_add]
      refine ⟨vp_in_nI (by omega) (by omega), ?_⟩
      rw [nI_clamp (by omega)]
      have e := List.take_append_drop i l
      cases hd : l.drop i with
      | nil =>
        have e4 := List.length_drop (i := i) (l := l)
        rw [hd, List.length_nil] at e4
        omega
      | cons p B =>
        rw [hd] at e
        have e5 : (l.take i).length = i := by rw [List.length_take]; omega
        have r := ((mv_rn_ap _ (l.take i) _).mp (e.symm ▸ e3)).2
        rw [e5] at r
        rw [r.1]
        exact hp _ p B e.symm (by rw [e5])
    · intro A p B e z
      rw [z] at b
      rw [e, List.length_append, List.length_cons] at e2 b
      exact b (nI_lt (by omega) (by omega))
