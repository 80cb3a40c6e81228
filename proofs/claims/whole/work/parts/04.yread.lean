/-! Y: what only reads -/
theorem mv_Y_bk {post : Int32 → Prop} {u : SY} {k : Int32} (h1 : ¬ mv_wi (-1000) 1000 k → post 1) (h0 : mv_wi (-1000) 1000 k → post 0) : wpY_badKey post u k := by
  unfold wpY_badKey
  exact br_c (fun a => h1 (fun z => z.1 a)) (fun a => br_c (fun b => h0 ⟨a, Int32.not_lt.mpr b⟩) (fun b => h1 (fun z => b (Int32.not_lt.mp z.2))))
theorem mv_Y_kf {post : Int32 → Prop} {o c : Int32} {K V S : Nat → Int32} {x : Int32} (h : x < o ∨ c < x) (hp : post 0) : wpY_kept post (o, c, K, V, S) x := by
  unfold wpY_kept
  refine br_c (fun a => hp) (fun a => br_c (fun b => hp) (fun b => ?_))
  cases h with
  | inl z => exact absurd z a
  | inr z => exact absurd z b
theorem mv_Y_kt {post : Int32 → Prop} {old cur w : Nat} {K V S : Nat → Int32} (hc : cur < 2 ^ 31) (h1 : old ≤ w) (h2 : w ≤ cur) (hp : post 1) : wpY_kept post (nI old, nI cur, K, V, S) (nI w) := by
  unfold wpY_kept
  exact br_f (nI_nlt h1 (by omega)) (br_f (nI_nlt h2 hc) hp)
theorem mv_Y_fl {post : Int32 → Prop} {k : Int32} {s n : Nat} {o c : Int32} {K V S : Nat → Int32} (hs : s < 41) (hS : S s = nI n) (hn : n ≤ 28) : ∀ (t : List mv_P) (i : Nat), i + t.length = n → mv_rn K V (s * 28 + i) t → post (mv_fd k (s * 28 + i) t) → wY_find_2 post k (nI s) o c K V S (t.length + 1) (nI i) := by
  intro t
  induction t with
  | nil =>
    intro i h hr hp
    have h' : i = n := by simpa using h
    rw [wY_find_2]
    dsimp only
    rw [nI_clamp (n := s) (by omega), hS]
    exact ⟨vp_in_nI hs (by omega), br_t (nI_le (by omega) (by omega)) hp⟩
  | cons p t ih =>
    intro i h hr hp
    rw [List.length_cons] at h
    obtain ⟨hK, hV, hr'⟩ := hr
    rw [List.length_cons, wY_find_2]
    dsimp only
    rw [nI_clamp (n := s) (by omega), hS, mv_m28, nI_add, nI_clamp (n := s * 28 + i) (by omega), hK]
    refine ⟨vp_in_nI hs (by omega), br_f (nI_ge (by omega) (by omega)) ⟨vp_in_nI (by omega) (by omega), ?_⟩⟩
    rw [mv_fd] at hp
    by_cases e : p.1 = k
    · rw [if_pos e] at hp
      exact br_t e hp
    · rw [if_neg e] at hp
      exact br_f e (nm_r (nI_1 i) (ih (i + 1) (by omega) hr' hp))
theorem mv_Y_ff {post : Int32 → Prop} {k : Int32} {s : Nat} {o c : Int32} {K V S : Nat → Int32} {l : List mv_P} (hs : s < 41) (h : mv_ok K V S s l) (hp : post (mv_fd k (s * 28) l)) : wpY_find post (o, c, K, V, S) k (nI s) := by
  unfold wpY_find
  exact ⟨_, mv_Y_fl hs h.1 h.2.1 l 0 (by omega) h.2.2 hp⟩
theorem mv_Y_cell {post : Int32 → Prop} {k : Int32} {s : Nat} {o c : Int32} {K V S : Nat → Int32} {l : List mv_P} (hs : s < 41) (h : mv_ok K V S s l) (h0 : mv_lk k l = none → post (-1)) (h1 : ∀ d, d < 1148 → mv_lk k l = some (V d) → post (nI d)) : wpY_find post (o, c, K, V, S) k (nI s) := by
  refine mv_Y_ff hs h ?_
  cases mv_fl k h.2.2 with
  | inl a => rw [a.2]; exact h0 a.1
  | inr a =>
    obtain ⟨d, d1, d2, d3, d4⟩ := a
    have := h.2.1
    rw [d3]
    exact h1 d (by omega) d4
theorem mv_Y_has0 {post : Int32 → Prop} {o c : Int32} {K V S : Nat → Int32} {k x : Int32} (h : x < o ∨ c < x) (hp : post 0) : wpY_has post (o, c, K, V, S) k x := by
  unfold wpY_has
  exact mv_Y_kf h (br_t rfl hp)
theorem mv_Y_get0 {post : Int32 → Prop} {o c : Int32} {K V S : Nat → Int32} {k x : Int32} (h : x < o ∨ c < x) (hp : post 0) : wpY_get post (o, c, K, V, S) k x := by
  unfold wpY_get
  exact mv_Y_has0 h (br_t rfl hp)
theorem mv_Y_has {post : Int32 → Prop} {k : Int32} {old cur w : Nat} {K V S : Nat → Int32} {l : List mv_P} (hc : cur < 2 ^ 30) (h1 : old ≤ w) (h2 : w ≤ cur) (h3 : cur ≤ old + 40) (h : mv_ok K V S (w - old) l) (hp : post (mv_hb (mv_lk k l))) : wpY_has post (nI old, nI cur, K, V, S) k (nI w) := by
  unfold wpY_has
  refine mv_Y_kt (by omega) h1 h2 (br_f (by decide) ?_)
  rw [pk_sub h1]
  refine mv_Y_cell (by omega) h (fun a => br_t (by decide) ?_) (fun d hd a => br_f (nI_pos (by omega)) ?_)
  · rw [a] at hp; exact hp
  · rw [a] at hp; exact hp
theorem mv_Y_get {post : Int32 → Prop} {k : Int32} {old cur w : Nat} {K V S : Nat → Int32} {l : List mv_P} (hc : cur < 2 ^ 30) (h1 : old ≤ w) (h2 : w ≤ cur) (h3 : cur ≤ old + 40) (h : mv_ok K V S (w - old) l) (hp : post (mv_gv (mv_lk k l))) : wpY_get post (nI old, nI cur, K, V, S) k (nI w) := by
  unfold wpY_get
  refine mv_Y_has hc h1 h2 h3 h ?_
  by_cases e : mv_lk k l = none
  · rw [e] at hp ⊢
    exact br_t rfl hp
  · rw [mv_hb, if_neg e]
    refine br_f (by decide) ?_
    rw [pk_sub h1]
    refine mv_Y_cell (by omega) h (fun a => absurd a e) (fun d hd a => ⟨vp_in_nI hd (by omega), ?_⟩)
    rw [nI_clamp (by omega)]
    rw [a] at hp
    exact hp
theorem mv_Y_cntl {post : Int32 → Prop} {lo hi : Int32} {s n : Nat} {o c : Int32} {K V S : Nat → Int32} (hs : s < 41) (hS : S s = nI n) (hn : n ≤ 28) : ∀ (t : List mv_P) (i : Nat) (x : Int32), i + t.length = n → mv_rn K V (s * 28 + i) t → post (x + mv_sm (mv_c1 lo hi) t) → wY_count_25 post lo hi (nI s) o c K V S (t.length + 1) x (nI i) := by
  intro t
  induction t with
  | nil =>
    intro i x h hr hp
    have h' : i = n := by simpa using h
    rw [mv_sm, Int32.add_zero] at hp
    rw [wY_count_25]
    dsimp only
    rw [nI_clamp (n := s) (by omega), hS]
    exact ⟨vp_in_nI hs (by omega), br_t (nI_le (by omega) (by omega)) hp⟩
  | cons p t ih =>
    intro i x h hr hp
    rw [List.length_cons] at h
    obtain ⟨hK, hV, hr'⟩ := hr
    rw [mv_sm, mv_ad] at hp
    rw [List.length_cons, wY_count_25]
    dsimp only
    rw [nI_clamp (n := s) (by omega), hS, mv_m28, nI_add, nI_clamp (n := s * 28 + i) (by omega), hK]
    have hi' : vp_in (nI (s * 28 + i)) 1148 := vp_in_nI (by omega) (by omega)
    refine ⟨vp_in_nI hs (by omega), br_f (nI_ge (by omega) (by omega)) ⟨hi', ?_⟩⟩
    refine br_c (fun a => nm_r (nI_1 i) ?_) (fun a => ⟨hi', br_c (fun b => nm_r (nI_1 i) ?_) (fun b => nm_e (nm_r (nI_1 i) ?_))⟩)
    · rw [mv_c1f (fun z => z.1 a), Int32.add_zero] at hp
      exact ih (i + 1) x (by omega) hr' hp
    · rw [mv_c1f (fun z => z.2 b), Int32.add_zero] at hp
      exact ih (i + 1) x (by omega) hr' hp
    · rw [mv_c1t ⟨a, b⟩] at hp
      exact ih (i + 1) (x + 1) (by omega) hr' hp
theorem mv_Y_cnt {post : Int32 → Prop} {lo hi : Int32} {old cur w : Nat} {K V S : Nat → Int32} {l : List mv_P} (hc : cur < 2 ^ 30) (h1 : old ≤ w) (h2 : w ≤ cur) (h3 : cur ≤ old + 40) (h : mv_ok K V S (w - old) l) (hp : post (mv_sm (mv_c1 lo hi) l)) : wpY_count post (nI old, nI cur, K, V, S) lo hi (nI w) := by
  unfold wpY_count
  refine mv_Y_kt (by omega) h1 h2 (br_f (by decide) (nm_r (pk_sub h1) ⟨_, mv_Y_cntl (by omega) h.1 h.2.1 l 0 0 (by omega) h.2.2 ?_⟩))
  rw [Int32.zero_add]
  exact hp
theorem mv_Y_suml {post : Int32 → Prop} {lo hi : Int32} {s n : Nat} {o c : Int32} {K V S : Nat → Int32} (hs : s < 41) (hS : S s = nI n) (hn : n ≤ 28) : ∀ (t : List mv_P) (i : Nat) (x : Int32), i + t.length = n → mv_rn K V (s * 28 + i) t → post (x + mv_sm (mv_s1 lo hi) t) → wY_sum_24 post lo hi (nI s) o c K V S (t.length + 1) x (nI i) := by
  intro t
  induction t with
  | nil =>
    intro i x h hr hp
    have h' : i = n := by simpa using h
    rw [mv_sm, Int32.add_zero] at hp
    rw [wY_sum_24]
    dsimp only
    rw [nI_clamp (n := s) (by omega), hS]
    exact ⟨vp_in_nI hs (by omega), br_t (nI_le (by omega) (by omega)) hp⟩
  | cons p t ih =>
    intro i x h hr hp
    rw [List.length_cons] at h
    obtain ⟨hK, hV, hr'⟩ := hr
    rw [mv_sm, mv_ad] at hp
    rw [List.length_cons, wY_sum_24]
    dsimp only
    rw [nI_clamp (n := s) (by omega), hS, mv_m28, nI_add, nI_clamp (n := s * 28 + i) (by omega), hK, hV]
    have hi' : vp_in (nI (s * 28 + i)) 1148 := vp_in_nI (by omega) (by omega)
    refine ⟨vp_in_nI hs (by omega), br_f (nI_ge (by omega) (by omega)) ⟨hi', ?_⟩⟩
    refine br_c (fun a => nm_r (nI_1 i) ?_) (fun a => ⟨hi', br_c (fun b => nm_r (nI_1 i) ?_) (fun b => ⟨hi', nm_e (nm_r (nI_1 i) ?_)⟩)⟩)
    · rw [mv_s1f (fun z => z.1 a), Int32.add_zero] at hp
      exact ih (i + 1) x (by omega) hr' hp
    · rw [mv_s1f (fun z => z.2 b), Int32.add_zero] at hp
      exact ih (i + 1) x (by omega) hr' hp
    · rw [mv_s1t ⟨a, b⟩] at hp
      exact ih (i + 1) (x + p.2) (by omega) hr' hp
theorem mv_Y_sum {post : Int32 → Prop} {lo hi : Int32} {old cur w : Nat} {K V S : Nat → Int32} {l : List mv_P} (hc : cur < 2 ^ 30) (h1 : old ≤ w) (h2 : w ≤ cur) (h3 : cur ≤ old + 40) (h : mv_ok K V S (w - old) l) (hp : post (mv_sm (mv_s1 lo hi) l)) : wpY_sum post (nI old, nI cur, K, V, S) lo hi (nI w) := by
  unfold wpY_sum
  refine mv_Y_kt (by omega) h1 h2 (br_f (by decide) (nm_r (pk_sub h1) ⟨_, mv_Y_suml (by omega) h.1 h.2.1 l 0 0 (by omega) h.2.2 ?_⟩))
  rw [Int32.zero_add]
  exact hp
/-- the least key above k, found by going through in any order -/
def mv_nb (k : Int32) : Int32 → List mv_P → Int32
  | x, [] => x
  | x, p :: t => if p.1 ≤ k then mv_nb k x t else if x ≤ p.1 then mv_nb k x t else mv_nb k p.1 t
theorem mv_Y_nxl {post : Int32 → Prop} {k : Int32} {s n : Nat} {o c : Int32} {K V S : Nat → Int32} (hs : s < 41) (hS : S s = nI n) (hn : n ≤ 28) : ∀ (t : List mv_P) (i : Nat) (x : Int32), i + t.length = n → mv_rn K V (s * 28 + i) t → post (mv_nb k x t) → wY_next_25 post k (nI s) o c K V S (t.length + 1) x (nI i) := by
  intro t
  induction t with
  | nil =>
    intro i x h hr hp
    have h' : i = n := by simpa using h
    rw [wY_next_25]
    dsimp only
    rw [nI_clamp (n := s) (by omega), hS]
    exact ⟨vp_in_nI hs (by omega), br_t (nI_le (by omega) (by omega)) hp⟩
  | cons p t ih =>
    intro i x h hr hp
    rw [List.length_cons] at h
    obtain ⟨hK, hV, hr'⟩ := hr
    rw [mv_nb] at hp
    rw [List.length_cons, wY_next_25]
    dsimp only
    rw [nI_clamp (n := s) (by omega), hS, mv_m28, nI_add, nI_clamp (n := s * 28 + i) (by omega), hK]
    have hi' : vp_in (nI (s * 28 + i)) 1148 := vp_in_nI (by omega) (by omega)
    refine ⟨vp_in_nI hs (by omega), br_f (nI_ge (by omega) (by omega)) ⟨hi', ?_⟩⟩
    refine br_c (fun a => nm_r (nI_1 i) ?_) (fun a => ⟨hi', br_c (fun b => nm_r (nI_1 i) ?_) (fun b => ⟨hi', nm_e (nm_r (nI_1 i) ?_)⟩)⟩)
    · rw [if_pos a] at hp
      exact ih (i + 1) x (by omega) hr' hp
    · rw [if_neg a, if_pos b] at hp
      exact ih (i + 1) x (by omega) hr' hp
    · rw [if_neg a, if_neg b] at hp
      exact ih (i + 1) p.1 (by omega) hr' hp
theorem mv_Y_next {post : Int32 → Prop} {k : Int32} {old cur w : Nat} {K V S : Nat → Int32} {l : List mv_P} (hc : cur < 2 ^ 30) (h1 : old ≤ w) (h2 : w ≤ cur) (h3 : cur ≤ old + 40) (h : mv_ok K V S (w - old) l) (hp : post (mv_nb k 100000 l)) : wpY_next post (nI old, nI cur, K, V, S) k (nI w) := by
  unfold wpY_next
  exact mv_Y_kt (by omega) h1 h2 (br_f (by decide) (nm_r (pk_sub h1) ⟨_, mv_Y_nxl (by omega) h.1 h.2.1 l 0 100000 (by omega) h.2.2 hp⟩))
/-- how many keys are smaller -/
def mv_rk (k : Int32) (p : mv_P) : Int32 := if k ≤ p.1 then 0 else 1
theorem mv_Y_kal {post J : Int32 → Prop} {x g : Int32} {s n j : Nat} {o c : Int32} {K V S : Nat → Int32} (hs : s < 41) (hS : S s = nI n) (hn : n ≤ 28) (hj : j < n) (hg : K (s * 28 + j) = g) : ∀ (t : List mv_P) (i : Nat) (y : Int32), i + t.length = n → mv_rn K V (s * 28 + i) t → (y + mv_sm (mv_rk g) t = x → post g) → (¬ y + mv_sm (mv_rk g) t = x → J (nI (j + 1))) → wY_keyAt_38 post J x (nI s) (nI j) o c K V S (t.length + 1) y (nI i) := by
  intro t
  induction t with
  | nil =>
    intro i y h hr h1 h2
    have h' : i = n := by simpa using h
    rw [mv_sm, Int32.add_zero] at h1 h2
    rw [wY_keyAt_38]
    dsimp only
    rw [nI_clamp (n := s) (by omega), hS, mv_m28, nI_add (s * 28) j, nI_clamp (n := s * 28 + j) (by omega), hg]
    exact ⟨vp_in_nI hs (by omega), br_t (nI_le (by omega) (by omega)) (br_c (fun a => ⟨vp_in_nI (by omega) (by omega), h1 a⟩) (fun a => nm_r (nI_1 j) (h2 a)))⟩
  | cons p t ih =>
    intro i y h hr h1 h2
    rw [List.length_cons] at h
    obtain ⟨hK, hV, hr'⟩ := hr
    rw [mv_sm, mv_ad] at h1 h2
    rw [List.length_cons, wY_keyAt_38]
    dsimp only
    rw [nI_clamp (n := s) (by omega), hS, mv_m28, nI_add (s * 28) j, nI_clamp (n := s * 28 + j) (by omega), hg, nI_add (s * 28) i, nI_clamp (n := s * 28 + i) (by omega), hK]
    refine ⟨vp_in_nI hs (by omega), br_f (nI_ge (by omega) (by omega)) ⟨vp_in_nI (by omega) (by omega), vp_in_nI (by omega) (by omega), ?_⟩⟩
    by_cases e : g ≤ p.1
    · rw [mv_rk, if_pos e, Int32.add_zero] at h1 h2
      exact br_t e (nm_r (nI_1 i) (ih (i + 1) y (by omega) hr' h1 h2))
    · rw [mv_rk, if_neg e] at h1 h2
      exact br_f e (nm_e (nm_r (nI_1 i) (ih (i + 1) (y + 1) (by omega) hr' h1 h2)))
/-- the first key of rank x -/
def mv_ka (R : Int32 → Int32) (x : Int32) : List mv_P → Int32
  | [] => 100000
  | p :: t => if R p.1 = x then p.1 else mv_ka R x t
theorem mv_Y_kao {post : Int32 → Prop} {x : Int32} {s n : Nat} {o c : Int32} {K V S : Nat → Int32} {l : List mv_P} (hs : s < 41) (hS : S s = nI n) (hn : n ≤ 28) (hl : l.length = n) (hrl : mv_rn K V (s * 28) l) : ∀ (t : List mv_P) (i : Nat), i + t.length = n → mv_rn K V (s * 28 + i) t → post (mv_ka (fun g => mv_sm (mv_rk g) l) x t) → wY_keyAt_21 post x (nI s) o c K V S (t.length + 1) (nI i) := by
  intro t
  induction t with
  | nil =>
    intro i h hr hp
    have h' : i = n := by simpa using h
    rw [wY_keyAt_21]
    dsimp only
    rw [nI_clamp (n := s) (by omega), hS]
    exact ⟨vp_in_nI hs (by omega), br_t (nI_le (by omega) (by omega)) hp⟩
  | cons p t ih =>
    intro i h hr hp
    rw [List.length_cons] at h
    obtain ⟨hK, hV, hr'⟩ := hr
    rw [mv_ka] at hp
    rw [List.length_cons, wY_keyAt_21]
    dsimp only
    rw [nI_clamp (n := s) (by omega), hS]
    refine ⟨vp_in_nI hs (by omega), br_f (nI_ge (by omega) (by omega)) ⟨_, mv_Y_kal hs hS hn (by omega) hK l 0 0 (by omega) hrl (fun a => ?_) (fun a => ?_)⟩⟩
    · rw [Int32.zero_add] at a
      rw [if_pos a] at hp
      exact hp
    · rw [Int32.zero_add] at a
      rw [if_neg a] at hp
      exact ih (i + 1) (by omega) hr' hp
theorem mv_Y_kat {post : Int32 → Prop} {x : Int32} {old cur w : Nat} {K V S : Nat → Int32} {l : List mv_P} (hc : cur < 2 ^ 30) (h1 : old ≤ w) (h2 : w ≤ cur) (h3 : cur ≤ old + 40) (h : mv_ok K V S (w - old) l) (hp : post (mv_ka (fun g => mv_sm (mv_rk g) l) x l)) : wpY_keyAt post (nI old, nI cur, K, V, S) x (nI w) := by
  unfold wpY_keyAt
  exact mv_Y_kt (by omega) h1 h2 (br_f (by decide) (nm_r (pk_sub h1) ⟨_, mv_Y_kao (by omega) h.1 h.2.1 rfl h.2.2 l 0 (by omega) h.2.2 hp⟩))
