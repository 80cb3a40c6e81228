section
theorem pk_us {f : Nat → Int32} {k : Nat} {x : Int32} : upd f k x k = x := if_pos rfl
theorem pk_un {f : Nat → Int32} {k j : Nat} {x : Int32} (h : j ≠ k) : upd f k x j = f j := if_neg h
theorem pk_sub {a b : Nat} (h : b ≤ a) : nI a - nI b = nI (a - b) := by
  obtain ⟨c, rfl⟩ : ∃ c, a = c + b := ⟨a - b, by omega⟩
  rw [← nI_add, Int32.add_sub_cancel, Nat.add_sub_cancel]
theorem pk_m1 (n : Nat) : nI (n + 1) + (-1) = nI n := by
  rw [← nI_1, Int32.add_assoc, show (1 : Int32) + (-1) = 0 from rfl, Int32.add_zero]
theorem pk_mul (a b : Nat) : nI a * nI b = nI (a * b) := (Int32.ofNat_mul a b).symm
theorem pk_sub_toInt {a b : Nat} (ha : a < 2 ^ 30) (hb : b < 2 ^ 30) : (nI a - nI b).toInt = (a : Int) - b := by
  rw [Int32.toInt_sub, nI_toInt (by omega), nI_toInt (by omega)]
  exact Int.bmod_eq_of_le (by omega) (by omega)
theorem pk_sneg {a b : Nat} (hb : b < 2 ^ 30) (h : a < b) : nI a - nI b < 0 := by
  rw [Int32.lt_iff_toInt_lt, pk_sub_toInt (by omega) hb, show (0 : Int32).toInt = 0 from by decide]
  omega
theorem pk_le {x y : Int32} {A B : Prop} (a b : Nat) (f : a ≤ b → A) (g : b < a → B) (hx : x = nI a := by rfl) (hy : y = nI b := by rfl) (ha : a < 2 ^ 31 := by omega) (hb : b < 2 ^ 31 := by omega) : (x ≤ y → A) ∧ (¬ x ≤ y → B) := by
  subst hx hy
  rw [nI_leI ha hb]
  exact ⟨f, fun z => g (by omega)⟩
theorem pk_lt {x y : Int32} {A B : Prop} (a b : Nat) (f : a < b → A) (g : b ≤ a → B) (hx : x = nI a := by rfl) (hy : y = nI b := by rfl) (ha : a < 2 ^ 31 := by omega) (hb : b < 2 ^ 31 := by omega) : (x < y → A) ∧ (¬ x < y → B) := by
  subst hx hy
  rw [nI_ltI ha hb]
  exact ⟨f, fun z => g (by omega)⟩
theorem pk_eq {x y : Int32} {A B : Prop} (a b : Nat) (f : a = b → A) (g : a ≠ b → B) (hx : x = nI a := by rfl) (hy : y = nI b := by rfl) (ha : a < 2 ^ 31 := by omega) (hb : b < 2 ^ 31 := by omega) : (x = y → A) ∧ (¬ x = y → B) := by
  subst hx hy
  rw [nI_eq ha hb]
  exact ⟨f, g⟩
theorem pk_in {x : Int32} (n N : Nat) (h : n < N) (hx : x = nI n := by rfl) (hN : N < 2 ^ 31 := by omega) : vp_in x N := by
  subst hx
  exact vp_in_nI h hN
theorem pk_cl {x : Int32} (n : Nat) (hx : x = nI n := by rfl) (h : n < 2 ^ 31 := by omega) : x.toNatClampNeg = n := by
  subst hx
  exact nI_clamp h
/-! a version as a list of pairs: key, value -/
abbrev mv_P : Type := Int32 × Int32
/-- the cells from b on hold the pairs of the list -/
def mv_rn (K V : Nat → Int32) : Nat → List mv_P → Prop
  | _, [] => True
  | b, p :: t => K b = p.1 ∧ V b = p.2 ∧ mv_rn K V (b + 1) t
/-- slot s holds the list -/
def mv_ok (K V S : Nat → Int32) (s : Nat) (l : List mv_P) : Prop := S s = nI l.length ∧ l.length ≤ 28 ∧ mv_rn K V (s * 28) l
def mv_so (l : List mv_P) : Prop := l.Pairwise (fun p q => p.1 < q.1)
def mv_kd (l : List mv_P) : Prop := l.Pairwise (fun p q => p.1 ≠ q.1)
def mv_kr (l : List mv_P) : Prop := ∀ p, p ∈ l → p.1 ≤ 1000
def mv_sm (f : mv_P → Int32) : List mv_P → Int32
  | [] => 0
  | p :: t => f p + mv_sm f t
def mv_lk (k : Int32) : List mv_P → Option Int32
  | [] => none
  | p :: t => if p.1 = k then some p.2 else mv_lk k t
def mv_fd (k : Int32) : Nat → List mv_P → Int32
  | _, [] => -1
  | b, p :: t => if p.1 = k then nI b else mv_fd k (b + 1) t
def mv_hb (x : Option Int32) : Int32 := if x = none then 0 else 1
def mv_gv (x : Option Int32) : Int32 := x.getD 0
def mv_wi (lo hi k : Int32) : Prop := ¬ k < lo ∧ ¬ hi < k
/-- the arrays agree outside slot s -/
def mv_fr (s : Nat) (K K' : Nat → Int32) : Prop := ∀ j, (j < s * 28 ∨ s * 28 + 28 ≤ j) → K' j = K j
theorem mv_fr_rf (s : Nat) (K : Nat → Int32) : mv_fr s K K := fun _ _ => rfl
theorem mv_fr_tr {s : Nat} {K K1 K2 : Nat → Int32} (a : mv_fr s K K1) (b : mv_fr s K1 K2) : mv_fr s K K2 := fun j h => (b j h).trans (a j h)
theorem mv_fr_up {s c : Nat} {K K' : Nat → Int32} {x : Int32} (a : mv_fr s K K') (h : s * 28 ≤ c) (h' : c < s * 28 + 28) : mv_fr s K (upd K' c x) := by
  intro j hj
  rw [pk_un (by omega)]
  exact a j hj
theorem mv_m28 (s : Nat) : nI s * 28 = nI (s * 28) := pk_mul s 28
theorem mv_rn_sh {K V K' V' : Nat → Int32} : ∀ (l : List mv_P) (b b' : Nat), mv_rn K V b l → (∀ j, j < l.length → K' (b' + j) = K (b + j) ∧ V' (b' + j) = V (b + j)) → mv_rn K' V' b' l := by
  intro l
  induction l with
  | nil => intro b b' _ _; exact True.intro
  | cons p t ih =>
    intro b b' h e
    obtain ⟨h1, h2, h3⟩ := h
    have e0 := e 0 (by rw [List.length_cons]; omega)
    refine ⟨?_, ?_, ?_⟩
    · exact e0.1.trans h1
    · exact e0.2.trans h2
    · refine ih (b + 1) (b' + 1) h3 ?_
      intro j hj
      have e1 := e (j + 1) (by rw [List.length_cons]; omega)
      rw [show b' + 1 + j = b' + (j + 1) from by omega, show b + 1 + j = b + (j + 1) from by omega]
      exact e1
theorem mv_rn_cg {K V K' V' : Nat → Int32} {l : List mv_P} {b : Nat} (h : mv_rn K V b l) (e : ∀ j, b ≤ j → j < b + l.length → K' j = K j ∧ V' j = V j) : mv_rn K' V' b l :=
  mv_rn_sh l b b h (fun j hj => e (b + j) (by omega) (by omega))
theorem mv_rn_ap {K V : Nat → Int32} (B : List mv_P) : ∀ (A : List mv_P) (b : Nat), mv_rn K V b (A ++ B) ↔ mv_rn K V b A ∧ mv_rn K V (b + A.length) B := by
  intro A
  induction A with
  | nil => intro b; exact ⟨fun h => ⟨True.intro, h⟩, fun h => h.2⟩
  | cons p t ih =>
    intro b
    have i := ih (b + 1)
    rw [List.length_cons, show b + (t.length + 1) = b + 1 + t.length from by omega]
    constructor
    · intro h
      exact ⟨⟨h.1, h.2.1, (i.mp h.2.2).1⟩, (i.mp h.2.2).2⟩
    · intro h
      exact ⟨h.1.1, h.1.2.1, i.mpr ⟨h.1.2.2, h.2⟩⟩
theorem mv_ok_fr {K V S K' V' S' : Nat → Int32} {s t : Nat} {l : List mv_P} (h : mv_ok K V S s l) (hK : mv_fr t K K') (hV : mv_fr t V V') (hS : ∀ j, j ≠ t → S' j = S j) (ne : s ≠ t) : mv_ok K' V' S' s l := by
  obtain ⟨h1, h2, h3⟩ := h
  refine ⟨(hS s ne).trans h1, h2, mv_rn_cg h3 ?_⟩
  intro j a b
  have o : j < t * 28 ∨ t * 28 + 28 ≤ j := by omega
  exact ⟨hK j o, hV j o⟩
theorem mv_fd_no {k : Int32} : ∀ (l : List mv_P) (b : Nat), (∀ p, p ∈ l → p.1 ≠ k) → mv_fd k b l = -1 := by
  intro l
  induction l with
  | nil => intro b _; rfl
  | cons p t ih =>
    intro b h
    rw [mv_fd, if_neg (h p (List.mem_cons_self))]
    exact ih (b + 1) (fun q hq => h q (List.mem_cons_of_mem _ hq))
theorem mv_fd_ye {k v : Int32} {B : List mv_P} : ∀ (A : List mv_P) (b : Nat), (∀ p, p ∈ A → p.1 ≠ k) → mv_fd k b (A ++ (k, v) :: B) = nI (b + A.length) := by
  intro A
  induction A with
  | nil => intro b _; rw [List.nil_append, mv_fd, if_pos rfl]; rfl
  | cons p t ih =>
    intro b h
    rw [List.cons_append, mv_fd, if_neg (h p (List.mem_cons_self)), ih (b + 1) (fun q hq => h q (List.mem_cons_of_mem _ hq)), List.length_cons]
    exact congrArg nI (by omega)
theorem mv_lk_no {k : Int32} : ∀ (l : List mv_P), (∀ p, p ∈ l → p.1 ≠ k) → mv_lk k l = none := by
  intro l
  induction l with
  | nil => intro _; rfl
  | cons p t ih =>
    intro h
    rw [mv_lk, if_neg (h p (List.mem_cons_self))]
    exact ih (fun q hq => h q (List.mem_cons_of_mem _ hq))
theorem mv_lk_ye {k v : Int32} {B : List mv_P} : ∀ (A : List mv_P), (∀ p, p ∈ A → p.1 ≠ k) → mv_lk k (A ++ (k, v) :: B) = some v := by
  intro A
  induction A with
  | nil => intro _; rw [List.nil_append, mv_lk, if_pos rfl]
  | cons p t ih =>
    intro h
    rw [List.cons_append, mv_lk, if_neg (h p (List.mem_cons_self)), ih (fun q hq => h q (List.mem_cons_of_mem _ hq))]
theorem mv_cs (k : Int32) : ∀ (l : List mv_P), (∀ p, p ∈ l → p.1 ≠ k) ∨ ∃ A v B, l = A ++ (k, v) :: B ∧ ∀ p, p ∈ A → p.1 ≠ k := by
  intro l
  induction l with
  | nil => exact Or.inl (fun p hp => absurd hp (List.not_mem_nil))
  | cons p t ih =>
    by_cases e : p.1 = k
    · exact Or.inr ⟨[], p.2, t, by rw [← e]; rfl, fun q hq => absurd hq (List.not_mem_nil)⟩
    · cases ih with
      | inl h =>
        refine Or.inl (fun q hq => ?_)
        cases List.mem_cons.mp hq with
        | inl a => rw [a]; exact e
        | inr a => exact h q a
      | inr h =>
        obtain ⟨A, v, B, rfl, hA⟩ := h
        refine Or.inr ⟨p :: A, v, B, rfl, fun q hq => ?_⟩
        cases List.mem_cons.mp hq with
        | inl a => rw [a]; exact e
        | inr a => exact hA q a
theorem mv_fl (k : Int32) {K V : Nat → Int32} {l : List mv_P} {b : Nat} (h : mv_rn K V b l) : (mv_lk k l = none ∧ mv_fd k b l = -1) ∨ ∃ c, b ≤ c ∧ c < b + l.length ∧ mv_fd k b l = nI c ∧ mv_lk k l = some (V c) := by
  cases mv_cs k l with
  | inl n => exact Or.inl ⟨mv_lk_no l n, mv_fd_no l b n⟩
  | inr y =>
    obtain ⟨A, v, B, rfl, hA⟩ := y
    refine Or.inr ⟨b + A.length, by omega, ?_, mv_fd_ye A b hA, ?_⟩
    · rw [List.length_append, List.length_cons]; omega
    · rw [mv_lk_ye A hA]
      have h2 := ((mv_rn_ap _ A b).mp h).2
      exact congrArg some h2.2.1.symm
theorem mv_n1 {c : Nat} (h : c < 2 ^ 31) : ¬ nI c = -1 := by
  intro e
  have e2 : (nI c).toInt = (-1 : Int32).toInt := by rw [e]
  rw [nI_toInt h, show (-1 : Int32).toInt = -1 from by decide] at e2
  omega
theorem mv_sz {a b : Nat} (h : a = b) : nI a = nI b := by rw [h]
/-- a version asked for: not kept, or a natural number within -/
theorem mv_kc (x : Int32) {old cur : Nat} (ho : old < 2 ^ 31) (hc : cur < 2 ^ 31) : (x < nI old ∨ nI cur < x) ∨ ∃ w, old ≤ w ∧ w ≤ cur ∧ x = nI w := by
  by_cases h1 : x < nI old
  · exact Or.inl (Or.inl h1)
  · by_cases h2 : nI cur < x
    · exact Or.inl (Or.inr h2)
    · refine Or.inr ?_
      have h0 : ¬ x < 0 := by
        intro z
        exact h1 (Int32.lt_of_lt_of_le z (nI_pos' ho))
      obtain ⟨j, hj, rfl⟩ := nI_of h0
      rw [nI_ltI hj ho] at h1
      rw [nI_ltI hc hj] at h2
      exact ⟨j, by omega, by omega, rfl⟩
end
section
/-! X: what only reads -/
theorem mv_nb0 : narrow .boolean (.int 0) = .int 0 := by rfl
theorem mv_nb1 : narrow .boolean (.int 1) = .int 1 := by rfl
theorem mv_X_wi {post : Int32 → Prop} {u : SX} {k lo hi : Int32} (h0 : ¬ mv_wi lo hi k → post 0) (h1 : mv_wi lo hi k → post 1) : wpX_isWithin post u k lo hi := by
  unfold wpX_isWithin
  exact br_c (fun a => h0 (fun z => z.1 a)) (fun a => br_c (fun b => h0 (fun z => z.2 b)) (fun b => h1 ⟨a, b⟩))
theorem mv_X_key {post : Int32 → Prop} {u : SX} {k : Int32} (h0 : ¬ mv_wi (-1000) 1000 k → post 0) (h1 : mv_wi (-1000) 1000 k → post 1) : wpX_isKey post u k := by
  unfold wpX_isKey
  exact mv_X_wi (fun a => ⟨mv_nb0, h0 a⟩) (fun a => ⟨mv_nb1, h1 a⟩)
theorem mv_X_kf {post : Int32 → Prop} {o c cs : Int32} {K V S : Nat → Int32} {x : Int32} (h : x < o ∨ c < x) (hp : post 0) : wpX_isKept post (o, c, cs, K, V, S) x := by
  unfold wpX_isKept
  dsimp only
  refine mv_X_wi (fun a => ⟨mv_nb0, hp⟩) (fun a => ?_)
  cases h with
  | inl b => exact absurd b a.1
  | inr b => exact absurd b a.2
theorem mv_X_kt {post : Int32 → Prop} {old cur w : Nat} {cs : Int32} {K V S : Nat → Int32} (hc : cur < 2 ^ 31) (h1 : old ≤ w) (h2 : w ≤ cur) (hp : post 1) : wpX_isKept post (nI old, nI cur, cs, K, V, S) (nI w) := by
  unfold wpX_isKept
  dsimp only
  refine mv_X_wi (fun a => ?_) (fun a => ⟨mv_nb1, hp⟩)
  exact absurd ⟨nI_nlt h1 (by omega), nI_nlt h2 hc⟩ a
theorem mv_X_sl {post : Int32 → Prop} {o : Int32} {cur w : Nat} {K V S : Nat → Int32} (hc : cur < 2 ^ 30) (h1 : cur ≤ w + 40) (h2 : w ≤ cur) (hp : post (nI (w % 41))) : wpX_slotOf post (o, nI cur, nI (cur % 41), K, V, S) (nI w) := by
  unfold wpX_slotOf
  dsimp only
  rw [pk_sub h2]
  by_cases h : cur - w ≤ cur % 41
  · rw [pk_sub h, show cur % 41 - (cur - w) = w % 41 from by omega]
    exact nm_e (br_t (nI_pos' (by omega)) hp)
  · refine nm_e (br_f (Int32.not_le.mpr (pk_sneg (by omega) (by omega))) ?_)
    have e : nI (cur % 41) - nI (cur - w) + 41 = nI (w % 41) := by
      have e1 : nI (cur % 41) - nI (cur - w) + 41 = nI (cur % 41) + nI 41 - nI (cur - w) := by
        show nI (cur % 41) - nI (cur - w) + nI 41 = nI (cur % 41) + nI 41 - nI (cur - w)
        generalize nI (cur % 41) = a
        generalize nI (cur - w) = b
        generalize nI 41 = c
        grind
      rw [e1, nI_add, pk_sub (by omega)]
      exact congrArg nI (by omega)
    rw [e]
    exact hp
theorem mv_X_fc {post : Int32 → Prop} {u : SX} {s : Nat} (hp : post (nI (s * 28))) : wpX_firstCell post u (nI s) := by
  unfold wpX_firstCell
  dsimp only
  rw [mv_m28]
  exact hp
theorem mv_X_cl {post : Int32 → Prop} {k : Int32} {s n : Nat} {o c cs : Int32} {K V S : Nat → Int32} (hs : s < 41) (hS : S s = nI n) (hn : n ≤ 28) : ∀ (t : List mv_P) (i : Nat), i + t.length = n → mv_rn K V (s * 28 + i) t → post (mv_fd k (s * 28 + i) t) → wX_cellOf_9 post k (nI s) (nI (s * 28)) o c cs K V S (t.length + 1) (nI i) := by
  intro t
  induction t with
  | nil =>
    intro i h hr hp
    have h' : i = n := by simpa using h
    rw [wX_cellOf_9]
    dsimp only
    rw [nI_clamp (n := s) (by omega), hS]
    exact ⟨vp_in_nI hs (by omega), br_t (nI_le (by omega) (by omega)) hp⟩
  | cons p t ih =>
    intro i h hr hp
    rw [List.length_cons] at h
    obtain ⟨hK, hV, hr'⟩ := hr
    rw [List.length_cons, wX_cellOf_9]
    dsimp only
    rw [nI_clamp (n := s) (by omega), hS, nI_add, nI_clamp (n := s * 28 + i) (by omega), hK]
    refine ⟨vp_in_nI hs (by omega), br_f (nI_ge (by omega) (by omega)) ⟨vp_in_nI (by omega) (by omega), ?_⟩⟩
    rw [mv_fd] at hp
    by_cases e : p.1 = k
    · rw [if_pos e] at hp
      exact br_t e hp
    · rw [if_neg e] at hp
      exact br_f e (nm_r (nI_1 i) (ih (i + 1) (by omega) hr' hp))
theorem mv_X_cf {post : Int32 → Prop} {k : Int32} {s : Nat} {o c cs : Int32} {K V S : Nat → Int32} {l : List mv_P} (hs : s < 41) (h : mv_ok K V S s l) (hp : post (mv_fd k (s * 28) l)) : wpX_cellOf post (o, c, cs, K, V, S) k (nI s) := by
  unfold wpX_cellOf
  exact mv_X_fc ⟨_, mv_X_cl hs h.1 h.2.1 l 0 (by omega) h.2.2 hp⟩
theorem mv_X_cell {post : Int32 → Prop} {k : Int32} {s : Nat} {o c cs : Int32} {K V S : Nat → Int32} {l : List mv_P} (hs : s < 41) (h : mv_ok K V S s l) (h0 : mv_lk k l = none → post (-1)) (h1 : ∀ d, d < 1148 → mv_lk k l = some (V d) → post (nI d)) : wpX_cellOf post (o, c, cs, K, V, S) k (nI s) := by
  refine mv_X_cf hs h ?_
  cases mv_fl k h.2.2 with
  | inl a => rw [a.2]; exact h0 a.1
  | inr a =>
    obtain ⟨d, d1, d2, d3, d4⟩ := a
    have := h.2.1
    rw [d3]
    exact h1 d (by omega) d4
theorem mv_X_ho {post : Int32 → Prop} {k v : Int32} {s : Nat} {o c cs : Int32} {K V S : Nat → Int32} {l : List mv_P} (hs : s < 41) (h : mv_ok K V S s l) (h0 : ¬ mv_lk k l = some v → post 0) (h1 : mv_lk k l = some v → post 1) : wpX_holds post (o, c, cs, K, V, S) k v (nI s) := by
  unfold wpX_holds
  refine mv_X_cell hs h (fun a => br_t rfl (h0 (by rw [a]; intro z; cases z))) (fun d hd a => br_f (mv_n1 (by omega)) ⟨vp_in_nI hd (by omega), ?_⟩)
  rw [nI_clamp (by omega)]
  exact br_c (fun b => h1 (by rw [a, b])) (fun b => h0 (by rw [a]; intro z; exact b (Option.some.inj z)))
theorem mv_X_has {post : Int32 → Prop} {k : Int32} {old cur w : Nat} {K V S : Nat → Int32} {l : List mv_P} (hc : cur < 2 ^ 30) (h1 : old ≤ w) (h2 : w ≤ cur) (h3 : cur ≤ old + 40) (h : mv_ok K V S (w % 41) l) (hp : post (mv_hb (mv_lk k l))) : wpX_has post (nI old, nI cur, nI (cur % 41), K, V, S) k (nI w) := by
  unfold wpX_has
  refine mv_X_kt (by omega) h1 h2 (br_f (by decide) (mv_X_sl hc (by omega) h2 (mv_X_cell (by omega) h (fun a => br_t rfl ?_) (fun d hd a => br_f (mv_n1 (by omega)) ?_))))
  · rw [a] at hp; exact hp
  · rw [a] at hp; exact hp
theorem mv_X_get {post : Int32 → Prop} {k : Int32} {old cur w : Nat} {K V S : Nat → Int32} {l : List mv_P} (hc : cur < 2 ^ 30) (h1 : old ≤ w) (h2 : w ≤ cur) (h3 : cur ≤ old + 40) (h : mv_ok K V S (w % 41) l) (hp : post (mv_gv (mv_lk k l))) : wpX_get post (nI old, nI cur, nI (cur % 41), K, V, S) k (nI w) := by
  unfold wpX_get
  refine mv_X_kt (by omega) h1 h2 (br_f (by decide) (mv_X_sl hc (by omega) h2 (mv_X_cell (by omega) h (fun a => br_t rfl ?_) (fun d hd a => br_f (mv_n1 (by omega)) ⟨vp_in_nI hd (by omega), ?_⟩))))
  · rw [a] at hp; exact hp
  · rw [nI_clamp (by omega)]; rw [a] at hp; exact hp
noncomputable def mv_c1 (lo hi : Int32) (p : mv_P) : Int32 := by
  classical exact if mv_wi lo hi p.1 then 1 else 0
noncomputable def mv_s1 (lo hi : Int32) (p : mv_P) : Int32 := by
  classical exact if mv_wi lo hi p.1 then p.2 else 0
theorem mv_c1t {lo hi : Int32} {p : mv_P} (h : mv_wi lo hi p.1) : mv_c1 lo hi p = 1 := if_pos h
theorem mv_c1f {lo hi : Int32} {p : mv_P} (h : ¬ mv_wi lo hi p.1) : mv_c1 lo hi p = 0 := if_neg h
theorem mv_s1t {lo hi : Int32} {p : mv_P} (h : mv_wi lo hi p.1) : mv_s1 lo hi p = p.2 := if_pos h
theorem mv_s1f {lo hi : Int32} {p : mv_P} (h : ¬ mv_wi lo hi p.1) : mv_s1 lo hi p = 0 := if_neg h
theorem mv_ad (a b c : Int32) : a + (b + c) = a + b + c := (Int32.add_assoc a b c).symm
theorem mv_X_cntl {post : Int32 → Prop} {lo hi : Int32} {s n : Nat} {o c cs : Int32} {K V S : Nat → Int32} (hs : s < 41) (hS : S s = nI n) (hn : n ≤ 28) : ∀ (t : List mv_P) (i : Nat) (x : Int32), i + t.length = n → mv_rn K V (s * 28 + i) t → post (x + mv_sm (mv_c1 lo hi) t) → wX_count_32 post lo hi (nI s) (nI (s * 28)) o c cs K V S (t.length + 1) x (nI i) := by
  intro t
  induction t with
  | nil =>
    intro i x h hr hp
    have h' : i = n := by simpa using h
    rw [mv_sm, Int32.add_zero] at hp
    rw [wX_count_32]
    dsimp only
    rw [nI_clamp (n := s) (by omega), hS]
    exact ⟨vp_in_nI hs (by omega), br_t (nI_le (by omega) (by omega)) hp⟩
  | cons p t ih =>
    intro i x h hr hp
    rw [List.length_cons] at h
    obtain ⟨hK, hV, hr'⟩ := hr
    rw [mv_sm, mv_ad] at hp
    rw [List.length_cons, wX_count_32]
    dsimp only
    rw [nI_clamp (n := s) (by omega), hS, nI_add, nI_clamp (n := s * 28 + i) (by omega), hK]
    refine ⟨vp_in_nI hs (by omega), br_f (nI_ge (by omega) (by omega)) ⟨vp_in_nI (by omega) (by omega), ?_⟩⟩
    refine mv_X_wi (fun a => br_t rfl (nm_r (nI_1 i) ?_)) (fun a => br_f (by decide) (nm_e (nm_r (nI_1 i) ?_)))
    · rw [mv_c1f a, Int32.add_zero] at hp
      exact ih (i + 1) x (by omega) hr' hp
    · rw [mv_c1t a] at hp
      exact ih (i + 1) (x + 1) (by omega) hr' hp
theorem mv_X_cnt {post : Int32 → Prop} {lo hi : Int32} {old cur w : Nat} {K V S : Nat → Int32} {l : List mv_P} (hc : cur < 2 ^ 30) (h1 : old ≤ w) (h2 : w ≤ cur) (h3 : cur ≤ old + 40) (h : mv_ok K V S (w % 41) l) (hp : post (mv_sm (mv_c1 lo hi) l)) : wpX_count post (nI old, nI cur, nI (cur % 41), K, V, S) lo hi (nI w) := by
  unfold wpX_count
  refine mv_X_kt (by omega) h1 h2 (br_f (by decide) (mv_X_sl hc (by omega) h2 (mv_X_fc ⟨_, mv_X_cntl (by omega) h.1 h.2.1 l 0 0 (by omega) h.2.2 ?_⟩)))
  rw [Int32.zero_add]
  exact hp
theorem mv_X_suml {post : Int32 → Prop} {lo hi : Int32} {s n : Nat} {o c cs : Int32} {K V S : Nat → Int32} (hs : s < 41) (hS : S s = nI n) (hn : n ≤ 28) : ∀ (t : List mv_P) (i : Nat) (x : Int32), i + t.length = n → mv_rn K V (s * 28 + i) t → post (x + mv_sm (mv_s1 lo hi) t) → wX_sum_31 post lo hi (nI s) (nI (s * 28)) o c cs K V S (t.length + 1) x (nI i) := by
  intro t
  induction t with
  | nil =>
    intro i x h hr hp
    have h' : i = n := by simpa using h
    rw [mv_sm, Int32.add_zero] at hp
    rw [wX_sum_31]
    dsimp only
    rw [nI_clamp (n := s) (by omega), hS]
    exact ⟨vp_in_nI hs (by omega), br_t (nI_le (by omega) (by omega)) hp⟩
  | cons p t ih =>
    intro i x h hr hp
    rw [List.length_cons] at h
    obtain ⟨hK, hV, hr'⟩ := hr
    rw [mv_sm, mv_ad] at hp
    rw [List.length_cons, wX_sum_31]
    dsimp only
    rw [nI_clamp (n := s) (by omega), hS, nI_add, nI_clamp (n := s * 28 + i) (by omega), hK, hV]
    refine ⟨vp_in_nI hs (by omega), br_f (nI_ge (by omega) (by omega)) ⟨vp_in_nI (by omega) (by omega), ?_⟩⟩
    refine mv_X_wi (fun a => br_t rfl (nm_r (nI_1 i) ?_)) (fun a => br_f (by decide) ⟨vp_in_nI (by omega) (by omega), nm_e (nm_r (nI_1 i) ?_)⟩)
    · rw [mv_s1f a, Int32.add_zero] at hp
      exact ih (i + 1) x (by omega) hr' hp
    · rw [mv_s1t a] at hp
      exact ih (i + 1) (x + p.2) (by omega) hr' hp
theorem mv_X_sum {post : Int32 → Prop} {lo hi : Int32} {old cur w : Nat} {K V S : Nat → Int32} {l : List mv_P} (hc : cur < 2 ^ 30) (h1 : old ≤ w) (h2 : w ≤ cur) (h3 : cur ≤ old + 40) (h : mv_ok K V S (w % 41) l) (hp : post (mv_sm (mv_s1 lo hi) l)) : wpX_sum post (nI old, nI cur, nI (cur % 41), K, V, S) lo hi (nI w) := by
  unfold wpX_sum
  refine mv_X_kt (by omega) h1 h2 (br_f (by decide) (mv_X_sl hc (by omega) h2 (mv_X_fc ⟨_, mv_X_suml (by omega) h.1 h.2.1 l 0 0 (by omega) h.2.2 ?_⟩)))
  rw [Int32.zero_add]
  exact hp
/-- the first key above k -/
def mv_nx (k : Int32) : List mv_P → Int32
  | [] => 100000
  | p :: t => if p.1 ≤ k then mv_nx k t else p.1
theorem mv_X_nxl {post : Int32 → Prop} {k : Int32} {s n : Nat} {o c cs : Int32} {K V S : Nat → Int32} (hs : s < 41) (hS : S s = nI n) (hn : n ≤ 28) : ∀ (t : List mv_P) (i : Nat), i + t.length = n → mv_rn K V (s * 28 + i) t → post (mv_nx k t) → wX_next_27 post k (nI s) (nI (s * 28)) o c cs K V S (t.length + 1) (nI i) := by
  intro t
  induction t with
  | nil =>
    intro i h hr hp
    have h' : i = n := by simpa using h
    rw [wX_next_27]
    dsimp only
    rw [nI_clamp (n := s) (by omega), hS]
    exact ⟨vp_in_nI hs (by omega), br_t (nI_le (by omega) (by omega)) hp⟩
  | cons p t ih =>
    intro i h hr hp
    rw [List.length_cons] at h
    obtain ⟨hK, hV, hr'⟩ := hr
    rw [List.length_cons, wX_next_27]
    dsimp only
    rw [nI_clamp (n := s) (by omega), hS, nI_add, nI_clamp (n := s * 28 + i) (by omega), hK]
    refine ⟨vp_in_nI hs (by omega), br_f (nI_ge (by omega) (by omega)) ⟨vp_in_nI (by omega) (by omega), ?_⟩⟩
    rw [mv_nx] at hp
    by_cases e : p.1 ≤ k
    · rw [if_pos e] at hp
      exact br_t e (nm_r (nI_1 i) (ih (i + 1) (by omega) hr' hp))
    · rw [if_neg e] at hp
      exact br_f e ⟨vp_in_nI (by omega) (by omega), hp⟩
theorem mv_X_next {post : Int32 → Prop} {k : Int32} {old cur w : Nat} {K V S : Nat → Int32} {l : List mv_P} (hc : cur < 2 ^ 30) (h1 : old ≤ w) (h2 : w ≤ cur) (h3 : cur ≤ old + 40) (h : mv_ok K V S (w % 41) l) (hp : post (mv_nx k l)) : wpX_next post (nI old, nI cur, nI (cur % 41), K, V, S) k (nI w) := by
  unfold wpX_next
  exact mv_X_kt (by omega) h1 h2 (br_f (by decide) (mv_X_sl hc (by omega) h2 (mv_X_fc ⟨_, mv_X_nxl (by omega) h.1 h.2.1 l 0 (by omega) h.2.2 hp⟩)))
theorem mv_X_kat {post : Int32 → Prop} {x : Int32} {old cur w : Nat} {K V S : Nat → Int32} {l : List mv_P} (hc : cur < 2 ^ 30) (h1 : old ≤ w) (h2 : w ≤ cur) (h3 : cur ≤ old + 40) (h : mv_ok K V S (w % 41) l) (h0 : (∀ A p B, l = A ++ p :: B → x ≠ nI A.length) → post 100000) (hp : ∀ A p B, l = A ++ p :: B → x = nI A.length → post p.1) : wpX_keyAt post (nI old, nI cur, nI (cur % 41), K, V, S) x (nI w) := by
  unfold wpX_keyAt
  refine mv_X_kt (by omega) h1 h2 (br_f (by decide) (mv_X_sl hc (by omega) h2 ?_))
  obtain ⟨e1, e2, e3⟩ := h
  refine br_c (fun a => h0 ?_) (fun a => ⟨vp_in_nI (by omega) (by omega), ?_⟩)
  · intro A p B e z
    rw [z] at a
    rw [e, List.length_append, List.length_cons] at e2
    exact nI_pos (by omega) a
  · obtain ⟨i, hi, rfl⟩ := nI_of a
    rw [nI_clamp (by omega), e1]
    refine br_c (fun b => mv_X_fc ?_) (fun b => h0 ?_)
    · rw [nI_ltI hi (by omega)] at b
      rw [nI_add]
      refine ⟨vp_in_nI (by omega) (by omega), ?_⟩
      rw [nI_clamp (by omega)]
      have e := List.take_append_drop i l
      cases hd : l.drop i with
      | nil =>
        have e4 := List.length_drop (i := i) (l := l)
        rw [hd, List.length_nil] at e4
        omega
      | cons p B =>
        rw [hd] at e
        have e5 : (l.take i).length = i := by rw [List.length_take]; omega
        have r := ((mv_rn_ap _ (l.take i) _).mp (e.symm ▸ e3)).2
        rw [e5] at r
        rw [r.1]
        exact hp _ p B e.symm (by rw [e5])
    · intro A p B e z
      rw [z] at b
      rw [e, List.length_append, List.length_cons] at e2 b
      exact b (nI_lt (by omega) (by omega))
end
section
/-! X: differ, since -/
noncomputable def mv_d1 (lo hi : Int32) (m : List mv_P) (p : mv_P) : Int32 := by
  classical exact if mv_wi lo hi p.1 then (if mv_lk p.1 m = some p.2 then 0 else 1) else 0
noncomputable def mv_d2 (lo hi : Int32) (m : List mv_P) (p : mv_P) : Int32 := by
  classical exact if mv_wi lo hi p.1 then (if mv_lk p.1 m = none then 1 else 0) else 0
theorem mv_d1f {lo hi : Int32} {m : List mv_P} {p : mv_P} (h : ¬ mv_wi lo hi p.1) : mv_d1 lo hi m p = 0 := if_neg h
theorem mv_d1a {lo hi : Int32} {m : List mv_P} {p : mv_P} (h : mv_wi lo hi p.1) (e : mv_lk p.1 m = some p.2) : mv_d1 lo hi m p = 0 := (if_pos h).trans (if_pos e)
theorem mv_d1b {lo hi : Int32} {m : List mv_P} {p : mv_P} (h : mv_wi lo hi p.1) (e : ¬ mv_lk p.1 m = some p.2) : mv_d1 lo hi m p = 1 := (if_pos h).trans (if_neg e)
theorem mv_d2f {lo hi : Int32} {m : List mv_P} {p : mv_P} (h : ¬ mv_wi lo hi p.1) : mv_d2 lo hi m p = 0 := if_neg h
theorem mv_d2a {lo hi : Int32} {m : List mv_P} {p : mv_P} (h : mv_wi lo hi p.1) (e : mv_lk p.1 m = none) : mv_d2 lo hi m p = 1 := (if_pos h).trans (if_pos e)
theorem mv_d2b {lo hi : Int32} {m : List mv_P} {p : mv_P} (h : mv_wi lo hi p.1) (e : ¬ mv_lk p.1 m = none) : mv_d2 lo hi m p = 0 := (if_pos h).trans (if_neg e)
theorem mv_X_chl {post : Int32 → Prop} {lo hi : Int32} {s z n : Nat} {o c cs : Int32} {K V S : Nat → Int32} {m : List mv_P} (hs : s < 41) (hz : z < 41) (hm : mv_ok K V S z m) (hS : S s = nI n) (hn : n ≤ 28) : ∀ (t : List mv_P) (i : Nat) (x : Int32), i + t.length = n → mv_rn K V (s * 28 + i) t → post (x + mv_sm (mv_d1 lo hi m) t) → wX_countChanged_13 post lo hi (nI s) (nI z) (nI (s * 28)) o c cs K V S (t.length + 1) x (nI i) := by
  intro t
  induction t with
  | nil =>
    intro i x h hr hp
    have h' : i = n := by simpa using h
    rw [mv_sm, Int32.add_zero] at hp
    rw [wX_countChanged_13]
    dsimp only
    rw [nI_clamp (n := s) (by omega), hS]
    exact ⟨vp_in_nI hs (by omega), br_t (nI_le (by omega) (by omega)) hp⟩
  | cons p t ih =>
    intro i x h hr hp
    rw [List.length_cons] at h
    obtain ⟨hK, hV, hr'⟩ := hr
    rw [mv_sm, mv_ad] at hp
    rw [List.length_cons, wX_countChanged_13]
    dsimp only
    rw [nI_clamp (n := s) (by omega), hS, nI_add, nI_clamp (n := s * 28 + i) (by omega), hK, hV]
    refine ⟨vp_in_nI hs (by omega), br_f (nI_ge (by omega) (by omega)) ⟨vp_in_nI (by omega) (by omega), nm_e ?_⟩⟩
    refine mv_X_wi (fun a => br_t rfl (nm_r (nI_1 i) ?_)) (fun a => br_f (by decide) ⟨vp_in_nI (by omega) (by omega), mv_X_ho hz hm (fun b => br_t rfl (nm_e (nm_r (nI_1 i) ?_))) (fun b => br_f (by decide) (nm_r (nI_1 i) ?_))⟩)
    · rw [mv_d1f a, Int32.add_zero] at hp
      exact ih (i + 1) x (by omega) hr' hp
    · rw [mv_d1b a b] at hp
      exact ih (i + 1) (x + 1) (by omega) hr' hp
    · rw [mv_d1a a b, Int32.add_zero] at hp
      exact ih (i + 1) x (by omega) hr' hp
theorem mv_X_lal {post : Int32 → Prop} {lo hi : Int32} {s z n : Nat} {o c cs : Int32} {K V S : Nat → Int32} {m : List mv_P} (hs : s < 41) (hz : z < 41) (hm : mv_ok K V S z m) (hS : S s = nI n) (hn : n ≤ 28) : ∀ (t : List mv_P) (i : Nat) (x : Int32), i + t.length = n → mv_rn K V (s * 28 + i) t → post (x + mv_sm (mv_d2 lo hi m) t) → wX_countLacking_13 post lo hi (nI s) (nI z) (nI (s * 28)) o c cs K V S (t.length + 1) x (nI i) := by
  intro t
  induction t with
  | nil =>
    intro i x h hr hp
    have h' : i = n := by simpa using h
    rw [mv_sm, Int32.add_zero] at hp
    rw [wX_countLacking_13]
    dsimp only
    rw [nI_clamp (n := s) (by omega), hS]
    exact ⟨vp_in_nI hs (by omega), br_t (nI_le (by omega) (by omega)) hp⟩
  | cons p t ih =>
    intro i x h hr hp
    rw [List.length_cons] at h
    obtain ⟨hK, hV, hr'⟩ := hr
    rw [mv_sm, mv_ad] at hp
    rw [List.length_cons, wX_countLacking_13]
    dsimp only
    rw [nI_clamp (n := s) (by omega), hS, nI_add, nI_clamp (n := s * 28 + i) (by omega), hK]
    refine ⟨vp_in_nI hs (by omega), br_f (nI_ge (by omega) (by omega)) ⟨vp_in_nI (by omega) (by omega), nm_e ?_⟩⟩
    refine mv_X_wi (fun a => br_t rfl (nm_r (nI_1 i) ?_)) (fun a => br_f (by decide) (mv_X_cell hz hm (fun b => br_t rfl (nm_e (nm_r (nI_1 i) ?_))) (fun d hd b => br_f (mv_n1 (by omega)) (nm_r (nI_1 i) ?_))))
    · rw [mv_d2f a, Int32.add_zero] at hp
      exact ih (i + 1) x (by omega) hr' hp
    · rw [mv_d2a a b] at hp
      exact ih (i + 1) (x + 1) (by omega) hr' hp
    · rw [mv_d2b a (by rw [b]; intro z; cases z), Int32.add_zero] at hp
      exact ih (i + 1) x (by omega) hr' hp
theorem mv_X_ch {post : Int32 → Prop} {lo hi : Int32} {s z : Nat} {o c cs : Int32} {K V S : Nat → Int32} {l m : List mv_P} (hs : s < 41) (hz : z < 41) (hl : mv_ok K V S s l) (hm : mv_ok K V S z m) (hp : post (mv_sm (mv_d1 lo hi m) l)) : wpX_countChanged post (o, c, cs, K, V, S) lo hi (nI s) (nI z) := by
  unfold wpX_countChanged
  refine mv_X_fc ⟨_, mv_X_chl hs hz hm hl.1 hl.2.1 l 0 0 (by omega) hl.2.2 ?_⟩
  rw [Int32.zero_add]
  exact hp
theorem mv_X_la {post : Int32 → Prop} {lo hi : Int32} {s z : Nat} {o c cs : Int32} {K V S : Nat → Int32} {l m : List mv_P} (hs : s < 41) (hz : z < 41) (hl : mv_ok K V S s l) (hm : mv_ok K V S z m) (hp : post (mv_sm (mv_d2 lo hi m) l)) : wpX_countLacking post (o, c, cs, K, V, S) lo hi (nI s) (nI z) := by
  unfold wpX_countLacking
  refine mv_X_fc ⟨_, mv_X_lal hs hz hm hl.1 hl.2.1 l 0 0 (by omega) hl.2.2 ?_⟩
  rw [Int32.zero_add]
  exact hp
theorem mv_X_di {post : Int32 → Prop} {lo hi : Int32} {old cur w y : Nat} {K V S : Nat → Int32} {l m : List mv_P} (hc : cur < 2 ^ 30) (h1 : old ≤ w) (h2 : w ≤ cur) (g1 : old ≤ y) (g2 : y ≤ cur) (h3 : cur ≤ old + 40) (hl : mv_ok K V S (w % 41) l) (hm : mv_ok K V S (y % 41) m) (hp : post (mv_sm (mv_d1 lo hi m) l + mv_sm (mv_d2 lo hi l) m)) : wpX_differ post (nI old, nI cur, nI (cur % 41), K, V, S) lo hi (nI w) (nI y) := by
  unfold wpX_differ
  exact mv_X_kt (by omega) h1 h2 (br_f (by decide) (mv_X_kt (by omega) g1 g2 (br_f (by decide) (mv_X_sl hc (by omega) h2 (mv_X_sl hc (by omega) g2 (mv_X_ch (by omega) (by omega) hl hm (mv_X_la (by omega) (by omega) hm hl hp)))))))
/-- since: a is how far back the value has stood -/
theorem mv_X_sil {post : Int32 → Prop} {k v : Int32} {old cur a : Nat} {K V S : Nat → Int32} {L : Nat → List mv_P} (hc : cur < 2 ^ 30) (h0 : old ≤ cur) (h3 : cur ≤ old + 40) (hL : ∀ w, old ≤ w → w ≤ cur → mv_ok K V S (w % 41) (L w)) (ha : a ≤ cur - old) (hy : ∀ j, j < a → mv_lk k (L (cur - (j + 1))) = some v) (hn : a = cur - old ∨ ¬ mv_lk k (L (cur - (a + 1))) = some v) (hp : post (nI (cur - a))) : ∀ (d j : Nat), j + d = a → wX_since_31 post k v (nI old) (nI cur) (nI (cur % 41)) K V S (d + 1) (nI j) (nI (j + 1)) := by
  intro d
  induction d with
  | zero =>
    intro j hj
    have e : j = a := by omega
    subst e
    rw [wX_since_31]
    dsimp only
    rw [pk_sub h0, pk_sub (show j ≤ cur from by omega)]
    by_cases q : j = cur - old
    · exact br_t (nI_lt (by omega) (by omega)) hp
    · have q2 : ¬ mv_lk k (L (cur - (j + 1))) = some v := by
        cases hn with
        | inl z => exact absurd z q
        | inr z => exact z
      rw [pk_sub (show j + 1 ≤ cur from by omega)]
      exact br_f (nI_nlt (by omega) (by omega)) (mv_X_sl hc (by omega) (by omega) (mv_X_ho (by omega) (hL _ (by omega) (by omega)) (fun _ => br_t rfl hp) (fun z => absurd z q2)))
  | succ d ih =>
    intro j hj
    have q2 := hy j (by omega)
    rw [wX_since_31]
    dsimp only
    rw [pk_sub h0, pk_sub (show j + 1 ≤ cur from by omega)]
    exact br_f (nI_nlt (by omega) (by omega)) (mv_X_sl hc (by omega) (by omega) (mv_X_ho (by omega) (hL _ (by omega) (by omega)) (fun z => absurd q2 z) (fun _ => br_f (by decide) (nm_r (nI_1 (j + 1)) (ih (j + 1) (by omega))))))
theorem mv_X_si0 {post : Int32 → Prop} {k : Int32} {old cur : Nat} {K V S : Nat → Int32} {l : List mv_P} (h : mv_ok K V S (cur % 41) l) (e : mv_lk k l = none) (hp : post (-2)) : wpX_since post (nI old, nI cur, nI (cur % 41), K, V, S) k := by
  unfold wpX_since
  refine mv_X_cell (by omega) h (fun _ => br_t rfl hp) (fun d _ b => ?_)
  rw [e] at b
  cases b
theorem mv_X_si1 {post : Int32 → Prop} {k v : Int32} {old cur a : Nat} {K V S : Nat → Int32} {L : Nat → List mv_P} (hc : cur < 2 ^ 30) (h0 : old ≤ cur) (h3 : cur ≤ old + 40) (hL : ∀ w, old ≤ w → w ≤ cur → mv_ok K V S (w % 41) (L w)) (e : mv_lk k (L cur) = some v) (ha : a ≤ cur - old) (hy : ∀ j, j < a → mv_lk k (L (cur - (j + 1))) = some v) (hn : a = cur - old ∨ ¬ mv_lk k (L (cur - (a + 1))) = some v) (hp : post (nI (cur - a))) : wpX_since post (nI old, nI cur, nI (cur % 41), K, V, S) k := by
  unfold wpX_since
  refine mv_X_cell (by omega) (hL cur h0 (by omega)) (fun z => ?_) (fun d hd b => br_f (mv_n1 (by omega)) ⟨vp_in_nI hd (by omega), ?_⟩)
  · rw [e] at z
    cases z
  · rw [nI_clamp (by omega)]
    rw [e] at b
    exact nm_r (Option.some.inj b).symm ⟨_, mv_X_sil hc h0 h3 hL ha hy hn hp a 0 (by omega)⟩
end
section
/-! Y: what only reads -/
theorem mv_Y_bk {post : Int32 → Prop} {u : SY} {k : Int32} (h1 : ¬ mv_wi (-1000) 1000 k → post 1) (h0 : mv_wi (-1000) 1000 k → post 0) : wpY_badKey post u k := by
  unfold wpY_badKey
  exact br_c (fun a => h1 (fun z => z.1 a)) (fun a => br_c (fun b => h0 ⟨a, Int32.not_lt.mpr b⟩) (fun b => h1 (fun z => b (Int32.not_lt.mp z.2))))
theorem mv_Y_kf {post : Int32 → Prop} {o c : Int32} {K V S : Nat → Int32} {x : Int32} (h : x < o ∨ c < x) (hp : post 0) : wpY_kept post (o, c, K, V, S) x := by
  unfold wpY_kept
  refine br_c (fun a => hp) (fun a => br_c (fun b => hp) (fun b => ?_))
  cases h with
  | inl z => exact absurd z a
  | inr z => exact absurd z b
theorem mv_Y_kt {post : Int32 → Prop} {old cur w : Nat} {K V S : Nat → Int32} (hc : cur < 2 ^ 31) (h1 : old ≤ w) (h2 : w ≤ cur) (hp : post 1) : wpY_kept post (nI old, nI cur, K, V, S) (nI w) := by
  unfold wpY_kept
  exact br_f (nI_nlt h1 (by omega)) (br_f (nI_nlt h2 hc) hp)
theorem mv_Y_fl {post : Int32 → Prop} {k : Int32} {s n : Nat} {o c : Int32} {K V S : Nat → Int32} (hs : s < 41) (hS : S s = nI n) (hn : n ≤ 28) : ∀ (t : List mv_P) (i : Nat), i + t.length = n → mv_rn K V (s * 28 + i) t → post (mv_fd k (s * 28 + i) t) → wY_find_2 post k (nI s) o c K V S (t.length + 1) (nI i) := by
  intro t
  induction t with
  | nil =>
    intro i h hr hp
    have h' : i = n := by simpa using h
    rw [wY_find_2]
    dsimp only
    rw [nI_clamp (n := s) (by omega), hS]
    exact ⟨vp_in_nI hs (by omega), br_t (nI_le (by omega) (by omega)) hp⟩
  | cons p t ih =>
    intro i h hr hp
    rw [List.length_cons] at h
    obtain ⟨hK, hV, hr'⟩ := hr
    rw [List.length_cons, wY_find_2]
    dsimp only
    rw [nI_clamp (n := s) (by omega), hS, mv_m28, nI_add, nI_clamp (n := s * 28 + i) (by omega), hK]
    refine ⟨vp_in_nI hs (by omega), br_f (nI_ge (by omega) (by omega)) ⟨vp_in_nI (by omega) (by omega), ?_⟩⟩
    rw [mv_fd] at hp
    by_cases e : p.1 = k
    · rw [if_pos e] at hp
      exact br_t e hp
    · rw [if_neg e] at hp
      exact br_f e (nm_r (nI_1 i) (ih (i + 1) (by omega) hr' hp))
theorem mv_Y_ff {post : Int32 → Prop} {k : Int32} {s : Nat} {o c : Int32} {K V S : Nat → Int32} {l : List mv_P} (hs : s < 41) (h : mv_ok K V S s l) (hp : post (mv_fd k (s * 28) l)) : wpY_find post (o, c, K, V, S) k (nI s) := by
  unfold wpY_find
  exact ⟨_, mv_Y_fl hs h.1 h.2.1 l 0 (by omega) h.2.2 hp⟩
theorem mv_Y_cell {post : Int32 → Prop} {k : Int32} {s : Nat} {o c : Int32} {K V S : Nat → Int32} {l : List mv_P} (hs : s < 41) (h : mv_ok K V S s l) (h0 : mv_lk k l = none → post (-1)) (h1 : ∀ d, d < 1148 → mv_lk k l = some (V d) → post (nI d)) : wpY_find post (o, c, K, V, S) k (nI s) := by
  refine mv_Y_ff hs h ?_
  cases mv_fl k h.2.2 with
  | inl a => rw [a.2]; exact h0 a.1
  | inr a =>
    obtain ⟨d, d1, d2, d3, d4⟩ := a
    have := h.2.1
    rw [d3]
    exact h1 d (by omega) d4
theorem mv_Y_has0 {post : Int32 → Prop} {o c : Int32} {K V S : Nat → Int32} {k x : Int32} (h : x < o ∨ c < x) (hp : post 0) : wpY_has post (o, c, K, V, S) k x := by
  unfold wpY_has
  exact mv_Y_kf h (br_t rfl hp)
theorem mv_Y_get0 {post : Int32 → Prop} {o c : Int32} {K V S : Nat → Int32} {k x : Int32} (h : x < o ∨ c < x) (hp : post 0) : wpY_get post (o, c, K, V, S) k x := by
  unfold wpY_get
  exact mv_Y_has0 h (br_t rfl hp)
theorem mv_Y_has {post : Int32 → Prop} {k : Int32} {old cur w : Nat} {K V S : Nat → Int32} {l : List mv_P} (hc : cur < 2 ^ 30) (h1 : old ≤ w) (h2 : w ≤ cur) (h3 : cur ≤ old + 40) (h : mv_ok K V S (w - old) l) (hp : post (mv_hb (mv_lk k l))) : wpY_has post (nI old, nI cur, K, V, S) k (nI w) := by
  unfold wpY_has
  refine mv_Y_kt (by omega) h1 h2 (br_f (by decide) ?_)
  rw [pk_sub h1]
  refine mv_Y_cell (by omega) h (fun a => br_t (by decide) ?_) (fun d hd a => br_f (nI_pos (by omega)) ?_)
  · rw [a] at hp; exact hp
  · rw [a] at hp; exact hp
theorem mv_Y_get {post : Int32 → Prop} {k : Int32} {old cur w : Nat} {K V S : Nat → Int32} {l : List mv_P} (hc : cur < 2 ^ 30) (h1 : old ≤ w) (h2 : w ≤ cur) (h3 : cur ≤ old + 40) (h : mv_ok K V S (w - old) l) (hp : post (mv_gv (mv_lk k l))) : wpY_get post (nI old, nI cur, K, V, S) k (nI w) := by
  unfold wpY_get
  refine mv_Y_has hc h1 h2 h3 h ?_
  by_cases e : mv_lk k l = none
  · rw [e] at hp ⊢
    exact br_t rfl hp
  · rw [mv_hb, if_neg e]
    refine br_f (by decide) ?_
    rw [pk_sub h1]
    refine mv_Y_cell (by omega) h (fun a => absurd a e) (fun d hd a => ⟨vp_in_nI hd (by omega), ?_⟩)
    rw [nI_clamp (by omega)]
    rw [a] at hp
    exact hp
theorem mv_Y_cntl {post : Int32 → Prop} {lo hi : Int32} {s n : Nat} {o c : Int32} {K V S : Nat → Int32} (hs : s < 41) (hS : S s = nI n) (hn : n ≤ 28) : ∀ (t : List mv_P) (i : Nat) (x : Int32), i + t.length = n → mv_rn K V (s * 28 + i) t → post (x + mv_sm (mv_c1 lo hi) t) → wY_count_25 post lo hi (nI s) o c K V S (t.length + 1) x (nI i) := by
  intro t
  induction t with
  | nil =>
    intro i x h hr hp
    have h' : i = n := by simpa using h
    rw [mv_sm, Int32.add_zero] at hp
    rw [wY_count_25]
    dsimp only
    rw [nI_clamp (n := s) (by omega), hS]
    exact ⟨vp_in_nI hs (by omega), br_t (nI_le (by omega) (by omega)) hp⟩
  | cons p t ih =>
    intro i x h hr hp
    rw [List.length_cons] at h
    obtain ⟨hK, hV, hr'⟩ := hr
    rw [mv_sm, mv_ad] at hp
    rw [List.length_cons, wY_count_25]
    dsimp only
    rw [nI_clamp (n := s) (by omega), hS, mv_m28, nI_add, nI_clamp (n := s * 28 + i) (by omega), hK]
    have hi' : vp_in (nI (s * 28 + i)) 1148 := vp_in_nI (by omega) (by omega)
    refine ⟨vp_in_nI hs (by omega), br_f (nI_ge (by omega) (by omega)) ⟨hi', ?_⟩⟩
    refine br_c (fun a => nm_r (nI_1 i) ?_) (fun a => ⟨hi', br_c (fun b => nm_r (nI_1 i) ?_) (fun b => nm_e (nm_r (nI_1 i) ?_))⟩)
    · rw [mv_c1f (fun z => z.1 a), Int32.add_zero] at hp
      exact ih (i + 1) x (by omega) hr' hp
    · rw [mv_c1f (fun z => z.2 b), Int32.add_zero] at hp
      exact ih (i + 1) x (by omega) hr' hp
    · rw [mv_c1t ⟨a, b⟩] at hp
      exact ih (i + 1) (x + 1) (by omega) hr' hp
theorem mv_Y_cnt {post : Int32 → Prop} {lo hi : Int32} {old cur w : Nat} {K V S : Nat → Int32} {l : List mv_P} (hc : cur < 2 ^ 30) (h1 : old ≤ w) (h2 : w ≤ cur) (h3 : cur ≤ old + 40) (h : mv_ok K V S (w - old) l) (hp : post (mv_sm (mv_c1 lo hi) l)) : wpY_count post (nI old, nI cur, K, V, S) lo hi (nI w) := by
  unfold wpY_count
  refine mv_Y_kt (by omega) h1 h2 (br_f (by decide) (nm_r (pk_sub h1) ⟨_, mv_Y_cntl (by omega) h.1 h.2.1 l 0 0 (by omega) h.2.2 ?_⟩))
  rw [Int32.zero_add]
  exact hp
theorem mv_Y_suml {post : Int32 → Prop} {lo hi : Int32} {s n : Nat} {o c : Int32} {K V S : Nat → Int32} (hs : s < 41) (hS : S s = nI n) (hn : n ≤ 28) : ∀ (t : List mv_P) (i : Nat) (x : Int32), i + t.length = n → mv_rn K V (s * 28 + i) t → post (x + mv_sm (mv_s1 lo hi) t) → wY_sum_24 post lo hi (nI s) o c K V S (t.length + 1) x (nI i) := by
  intro t
  induction t with
  | nil =>
    intro i x h hr hp
    have h' : i = n := by simpa using h
    rw [mv_sm, Int32.add_zero] at hp
    rw [wY_sum_24]
    dsimp only
    rw [nI_clamp (n := s) (by omega), hS]
    exact ⟨vp_in_nI hs (by omega), br_t (nI_le (by omega) (by omega)) hp⟩
  | cons p t ih =>
    intro i x h hr hp
    rw [List.length_cons] at h
    obtain ⟨hK, hV, hr'⟩ := hr
    rw [mv_sm, mv_ad] at hp
    rw [List.length_cons, wY_sum_24]
    dsimp only
    rw [nI_clamp (n := s) (by omega), hS, mv_m28, nI_add, nI_clamp (n := s * 28 + i) (by omega), hK, hV]
    have hi' : vp_in (nI (s * 28 + i)) 1148 := vp_in_nI (by omega) (by omega)
    refine ⟨vp_in_nI hs (by omega), br_f (nI_ge (by omega) (by omega)) ⟨hi', ?_⟩⟩
    refine br_c (fun a => nm_r (nI_1 i) ?_) (fun a => ⟨hi', br_c (fun b => nm_r (nI_1 i) ?_) (fun b => ⟨hi', nm_e (nm_r (nI_1 i) ?_)⟩)⟩)
    · rw [mv_s1f (fun z => z.1 a), Int32.add_zero] at hp
      exact ih (i + 1) x (by omega) hr' hp
    · rw [mv_s1f (fun z => z.2 b), Int32.add_zero] at hp
      exact ih (i + 1) x (by omega) hr' hp
    · rw [mv_s1t ⟨a, b⟩] at hp
      exact ih (i + 1) (x + p.2) (by omega) hr' hp
theorem mv_Y_sum {post : Int32 → Prop} {lo hi : Int32} {old cur w : Nat} {K V S : Nat → Int32} {l : List mv_P} (hc : cur < 2 ^ 30) (h1 : old ≤ w) (h2 : w ≤ cur) (h3 : cur ≤ old + 40) (h : mv_ok K V S (w - old) l) (hp : post (mv_sm (mv_s1 lo hi) l)) : wpY_sum post (nI old, nI cur, K, V, S) lo hi (nI w) := by
  unfold wpY_sum
  refine mv_Y_kt (by omega) h1 h2 (br_f (by decide) (nm_r (pk_sub h1) ⟨_, mv_Y_suml (by omega) h.1 h.2.1 l 0 0 (by omega) h.2.2 ?_⟩))
  rw [Int32.zero_add]
  exact hp
/-- the least key above k, found by going through in any order -/
def mv_nb (k : Int32) : Int32 → List mv_P → Int32
  | x, [] => x
  | x, p :: t => if p.1 ≤ k then mv_nb k x t else if x ≤ p.1 then mv_nb k x t else mv_nb k p.1 t
theorem mv_Y_nxl {post : Int32 → Prop} {k : Int32} {s n : Nat} {o c : Int32} {K V S : Nat → Int32} (hs : s < 41) (hS : S s = nI n) (hn : n ≤ 28) : ∀ (t : List mv_P) (i : Nat) (x : Int32), i + t.length = n → mv_rn K V (s * 28 + i) t → post (mv_nb k x t) → wY_next_25 post k (nI s) o c K V S (t.length + 1) x (nI i) := by
  intro t
  induction t with
  | nil =>
    intro i x h hr hp
    have h' : i = n := by simpa using h
    rw [wY_next_25]
    dsimp only
    rw [nI_clamp (n := s) (by omega), hS]
    exact ⟨vp_in_nI hs (by omega), br_t (nI_le (by omega) (by omega)) hp⟩
  | cons p t ih =>
    intro i x h hr hp
    rw [List.length_cons] at h
    obtain ⟨hK, hV, hr'⟩ := hr
    rw [mv_nb] at hp
    rw [List.length_cons, wY_next_25]
    dsimp only
    rw [nI_clamp (n := s) (by omega), hS, mv_m28, nI_add, nI_clamp (n := s * 28 + i) (by omega), hK]
    have hi' : vp_in (nI (s * 28 + i)) 1148 := vp_in_nI (by omega) (by omega)
    refine ⟨vp_in_nI hs (by omega), br_f (nI_ge (by omega) (by omega)) ⟨hi', ?_⟩⟩
    refine br_c (fun a => nm_r (nI_1 i) ?_) (fun a => ⟨hi', br_c (fun b => nm_r (nI_1 i) ?_) (fun b => ⟨hi', nm_e (nm_r (nI_1 i) ?_)⟩)⟩)
    · rw [if_pos a] at hp
      exact ih (i + 1) x (by omega) hr' hp
    · rw [if_neg a, if_pos b] at hp
      exact ih (i + 1) x (by omega) hr' hp
    · rw [if_neg a, if_neg b] at hp
      exact ih (i + 1) p.1 (by omega) hr' hp
theorem mv_Y_next {post : Int32 → Prop} {k : Int32} {old cur w : Nat} {K V S : Nat → Int32} {l : List mv_P} (hc : cur < 2 ^ 30) (h1 : old ≤ w) (h2 : w ≤ cur) (h3 : cur ≤ old + 40) (h : mv_ok K V S (w - old) l) (hp : post (mv_nb k 100000 l)) : wpY_next post (nI old, nI cur, K, V, S) k (nI w) := by
  unfold wpY_next
  exact mv_Y_kt (by omega) h1 h2 (br_f (by decide) (nm_r (pk_sub h1) ⟨_, mv_Y_nxl (by omega) h.1 h.2.1 l 0 100000 (by omega) h.2.2 hp⟩))
/-- how many keys are smaller -/
def mv_rk (k : Int32) (p : mv_P) : Int32 := if k ≤ p.1 then 0 else 1
theorem mv_Y_kal {post J : Int32 → Prop} {x g : Int32} {s n j : Nat} {o c : Int32} {K V S : Nat → Int32} (hs : s < 41) (hS : S s = nI n) (hn : n ≤ 28) (hj : j < n) (hg : K (s * 28 + j) = g) : ∀ (t : List mv_P) (i : Nat) (y : Int32), i + t.length = n → mv_rn K V (s * 28 + i) t → (y + mv_sm (mv_rk g) t = x → post g) → (¬ y + mv_sm (mv_rk g) t = x → J (nI (j + 1))) → wY_keyAt_38 post J x (nI s) (nI j) o c K V S (t.length + 1) y (nI i) := by
  intro t
  induction t with
  | nil =>
    intro i y h hr h1 h2
    have h' : i = n := by simpa using h
    rw [mv_sm, Int32.add_zero] at h1 h2
    rw [wY_keyAt_38]
    dsimp only
    rw [nI_clamp (n := s) (by omega), hS, mv_m28, nI_add (s * 28) j, nI_clamp (n := s * 28 + j) (by omega), hg]
    exact ⟨vp_in_nI hs (by omega), br_t (nI_le (by omega) (by omega)) (br_c (fun a => ⟨vp_in_nI (by omega) (by omega), h1 a⟩) (fun a => nm_r (nI_1 j) (h2 a)))⟩
  | cons p t ih =>
    intro i y h hr h1 h2
    rw [List.length_cons] at h
    obtain ⟨hK, hV, hr'⟩ := hr
    rw [mv_sm, mv_ad] at h1 h2
    rw [List.length_cons, wY_keyAt_38]
    dsimp only
    rw [nI_clamp (n := s) (by omega), hS, mv_m28, nI_add (s * 28) j, nI_clamp (n := s * 28 + j) (by omega), hg, nI_add (s * 28) i, nI_clamp (n := s * 28 + i) (by omega), hK]
    refine ⟨vp_in_nI hs (by omega), br_f (nI_ge (by omega) (by omega)) ⟨vp_in_nI (by omega) (by omega), vp_in_nI (by omega) (by omega), ?_⟩⟩
    by_cases e : g ≤ p.1
    · rw [mv_rk, if_pos e, Int32.add_zero] at h1 h2
      exact br_t e (nm_r (nI_1 i) (ih (i + 1) y (by omega) hr' h1 h2))
    · rw [mv_rk, if_neg e] at h1 h2
      exact br_f e (nm_e (nm_r (nI_1 i) (ih (i + 1) (y + 1) (by omega) hr' h1 h2)))
/-- the first key of rank x -/
def mv_ka (R : Int32 → Int32) (x : Int32) : List mv_P → Int32
  | [] => 100000
  | p :: t => if R p.1 = x then p.1 else mv_ka R x t
theorem mv_Y_kao {post : Int32 → Prop} {x : Int32} {s n : Nat} {o c : Int32} {K V S : Nat → Int32} {l : List mv_P} (hs : s < 41) (hS : S s = nI n) (hn : n ≤ 28) (hl : l.length = n) (hrl : mv_rn K V (s * 28) l) : ∀ (t : List mv_P) (i : Nat), i + t.length = n → mv_rn K V (s * 28 + i) t → post (mv_ka (fun g => mv_sm (mv_rk g) l) x t) → wY_keyAt_21 post x (nI s) o c K V S (t.length + 1) (nI i) := by
  intro t
  induction t with
  | nil =>
    intro i h hr hp
    have h' : i = n := by simpa using h
    rw [wY_keyAt_21]
    dsimp only
    rw [nI_clamp (n := s) (by omega), hS]
    exact ⟨vp_in_nI hs (by omega), br_t (nI_le (by omega) (by omega)) hp⟩
  | cons p t ih =>
    intro i h hr hp
    rw [List.length_cons] at h
    obtain ⟨hK, hV, hr'⟩ := hr
    rw [mv_ka] at hp
    rw [List.length_cons, wY_keyAt_21]
    dsimp only
    rw [nI_clamp (n := s) (by omega), hS]
    refine ⟨vp_in_nI hs (by omega), br_f (nI_ge (by omega) (by omega)) ⟨_, mv_Y_kal hs hS hn (by omega) hK l 0 0 (by omega) hrl (fun a => ?_) (fun a => ?_)⟩⟩
    · rw [Int32.zero_add] at a
      rw [if_pos a] at hp
      exact hp
    · rw [Int32.zero_add] at a
      rw [if_neg a] at hp
      exact ih (i + 1) (by omega) hr' hp
theorem mv_Y_kat {post : Int32 → Prop} {x : Int32} {old cur w : Nat} {K V S : Nat → Int32} {l : List mv_P} (hc : cur < 2 ^ 30) (h1 : old ≤ w) (h2 : w ≤ cur) (h3 : cur ≤ old + 40) (h : mv_ok K V S (w - old) l) (hp : post (mv_ka (fun g => mv_sm (mv_rk g) l) x l)) : wpY_keyAt post (nI old, nI cur, K, V, S) x (nI w) := by
  unfold wpY_keyAt
  exact mv_Y_kt (by omega) h1 h2 (br_f (by decide) (nm_r (pk_sub h1) ⟨_, mv_Y_kao (by omega) h.1 h.2.1 rfl h.2.2 l 0 (by omega) h.2.2 hp⟩))
end
section
/-! Y: differ, since -/
noncomputable def mv_d3 (lo hi : Int32) (m : List mv_P) (p : mv_P) : Int32 := by
  classical exact if mv_wi lo hi p.1 then (if mv_lk p.1 m = none then 1 else if mv_lk p.1 m = some p.2 then -1 else 0) else 0
theorem mv_d3f {lo hi : Int32} {m : List mv_P} {p : mv_P} (h : ¬ mv_wi lo hi p.1) : mv_d3 lo hi m p = 0 := if_neg h
theorem mv_d3a {lo hi : Int32} {m : List mv_P} {p : mv_P} (h : mv_wi lo hi p.1) (e : mv_lk p.1 m = none) : mv_d3 lo hi m p = 1 := (if_pos h).trans (if_pos e)
theorem mv_d3b {lo hi : Int32} {m : List mv_P} {p : mv_P} (h : mv_wi lo hi p.1) (e : ¬ mv_lk p.1 m = none) (e' : mv_lk p.1 m = some p.2) : mv_d3 lo hi m p = -1 := ((if_pos h).trans (if_neg e)).trans (if_pos e')
theorem mv_d3c {lo hi : Int32} {m : List mv_P} {p : mv_P} (h : mv_wi lo hi p.1) (e : ¬ mv_lk p.1 m = none) (e' : ¬ mv_lk p.1 m = some p.2) : mv_d3 lo hi m p = 0 := ((if_pos h).trans (if_neg e)).trans (if_neg e')
theorem mv_gv_eq {x : Option Int32} {v : Int32} (h : ¬ x = none) : mv_gv x = v ↔ x = some v := by
  cases x with
  | none => exact absurd rfl h
  | some y => exact ⟨fun e => congrArg some e, fun e => Option.some.inj e⟩
theorem mv_Y_dil {post : Int32 → Prop} {lo hi : Int32} {s n old cur y : Nat} {K V S : Nat → Int32} {m : List mv_P} (hc : cur < 2 ^ 30) (g1 : old ≤ y) (g2 : y ≤ cur) (h3 : cur ≤ old + 40) (hs : s < 41) (hm : mv_ok K V S (y - old) m) (hS : S s = nI n) (hn : n ≤ 28) : ∀ (t : List mv_P) (i : Nat) (x : Int32), i + t.length = n → mv_rn K V (s * 28 + i) t → post (x + mv_sm (mv_d3 lo hi m) t) → wY_differ_41 post lo hi (nI y) (nI s) (nI old) (nI cur) K V S (t.length + 1) x (nI i) := by
  intro t
  induction t with
  | nil =>
    intro i x h hr hp
    have h' : i = n := by simpa using h
    rw [mv_sm, Int32.add_zero] at hp
    rw [wY_differ_41]
    dsimp only
    rw [nI_clamp (n := s) (by omega), hS]
    exact ⟨vp_in_nI hs (by omega), br_t (nI_le (by omega) (by omega)) hp⟩
  | cons p t ih =>
    intro i x h hr hp
    rw [List.length_cons] at h
    obtain ⟨hK, hV, hr'⟩ := hr
    rw [mv_sm, mv_ad] at hp
    rw [List.length_cons, wY_differ_41]
    dsimp only
    rw [nI_clamp (n := s) (by omega), hS, mv_m28, nI_add, nI_clamp (n := s * 28 + i) (by omega), hK, hV]
    have hi' : vp_in (nI (s * 28 + i)) 1148 := vp_in_nI (by omega) (by omega)
    refine ⟨vp_in_nI hs (by omega), br_f (nI_ge (by omega) (by omega)) ⟨hi', nm_e ?_⟩⟩
    refine br_c (fun a => nm_r (nI_1 i) ?_) (fun a => br_c (fun b => nm_r (nI_1 i) ?_) (fun b => mv_Y_has hc g1 g2 h3 hm ?_))
    · rw [mv_d3f (fun z => z.1 a), Int32.add_zero] at hp
      exact ih (i + 1) x (by omega) hr' hp
    · rw [mv_d3f (fun z => z.2 b), Int32.add_zero] at hp
      exact ih (i + 1) x (by omega) hr' hp
    · by_cases e : mv_lk p.1 m = none
      · rw [mv_hb, if_pos e]
        rw [mv_d3a ⟨a, b⟩ e] at hp
        exact br_t rfl (nm_e (nm_r (nI_1 i) (ih (i + 1) (x + 1) (by omega) hr' hp)))
      · rw [mv_hb, if_neg e]
        refine br_f (by decide) (mv_Y_get hc g1 g2 h3 hm ⟨hi', br_c (fun q => nm_r (Int32.sub_eq_add_neg x 1) (nm_r (nI_1 i) ?_)) (fun q => nm_r (nI_1 i) ?_)⟩)
        · rw [mv_d3b ⟨a, b⟩ e ((mv_gv_eq e).mp q)] at hp
          exact ih (i + 1) (x + -1) (by omega) hr' hp
        · rw [mv_d3c ⟨a, b⟩ e (fun z => q ((mv_gv_eq e).mpr z)), Int32.add_zero] at hp
          exact ih (i + 1) x (by omega) hr' hp
theorem mv_Y_di {post : Int32 → Prop} {lo hi : Int32} {old cur w y : Nat} {K V S : Nat → Int32} {l m : List mv_P} (hc : cur < 2 ^ 30) (h1 : old ≤ w) (h2 : w ≤ cur) (g1 : old ≤ y) (g2 : y ≤ cur) (h3 : cur ≤ old + 40) (hl : mv_ok K V S (w - old) l) (hm : mv_ok K V S (y - old) m) (hp : post (mv_sm (mv_c1 lo hi) m + mv_sm (mv_d3 lo hi m) l)) : wpY_differ post (nI old, nI cur, K, V, S) lo hi (nI w) (nI y) := by
  unfold wpY_differ
  exact mv_Y_kt (by omega) h1 h2 (br_f (by decide) (mv_Y_kt (by omega) g1 g2 (br_f (by decide) (mv_Y_cnt hc g1 g2 h3 hm (nm_r (pk_sub h1) ⟨_, mv_Y_dil hc g1 g2 h3 (by omega) hm hl.1 hl.2.1 l 0 _ (by omega) hl.2.2 hp⟩)))))
theorem mv_Y_si0 {post : Int32 → Prop} {k : Int32} {old cur : Nat} {K V S : Nat → Int32} {l : List mv_P} (hc : cur < 2 ^ 30) (h0 : old ≤ cur) (h3 : cur ≤ old + 40) (h : mv_ok K V S (cur - old) l) (e : mv_lk k l = none) (hp : post (-2)) : wpY_since post (nI old, nI cur, K, V, S) k := by
  unfold wpY_since
  refine mv_Y_has hc h0 (by omega) h3 h ?_
  rw [mv_hb, if_pos e]
  exact br_t rfl hp
theorem mv_lm1 {old : Nat} (h : old < 2 ^ 30) : nI old - 1 < nI old := by
  rw [Int32.lt_iff_toInt_lt, show (1 : Int32) = nI 1 from rfl, pk_sub_toInt (by omega) (by omega), nI_toInt (by omega)]
  omega
theorem mv_Y_sil {post : Int32 → Prop} {k v : Int32} {old cur a : Nat} {K V S : Nat → Int32} {L : Nat → List mv_P} (hc : cur < 2 ^ 30) (h0 : old ≤ cur) (h3 : cur ≤ old + 40) (hL : ∀ w, old ≤ w → w ≤ cur → mv_ok K V S (w - old) (L w)) (e : mv_lk k (L cur) = some v) (ha : a ≤ cur - old) (hy : ∀ j, j < a → mv_lk k (L (cur - (j + 1))) = some v) (hn : a = cur - old ∨ ¬ mv_lk k (L (cur - (a + 1))) = some v) (hp : post (nI (cur - a))) : ∀ (d i j : Nat), i + d = 40 → j ≤ a → a - j ≤ d → wY_since_22 post k (nI old) (nI cur) K V S (d + 1) (nI (cur - j)) (nI i) := by
  intro d
  induction d with
  | zero =>
    intro i j hi hj hd
    have e : j = a := by omega
    subst e
    rw [wY_since_22]
    dsimp only
    exact br_t (nI_le (a := 40) (by omega) (by omega)) hp
  | succ d ih =>
    intro i j hi hj hd
    rw [wY_since_22]
    dsimp only
    refine br_f (nI_ge (b := 40) (by omega) (by omega)) ?_
    by_cases q : j = cur - old
    · rw [show cur - j = old from by omega]
      refine mv_Y_has0 (Or.inl (mv_lm1 (by omega))) (br_t rfl (nm_r (nI_1 i) ?_))
      have r := ih (i + 1) j (by omega) hj (by omega)
      rw [show cur - j = old from by omega] at r
      exact r
    · rw [show nI (cur - j) - 1 = nI (cur - (j + 1)) from by rw [show cur - j = cur - (j + 1) + 1 from by omega, nI_pred]]
      have w1 : old ≤ cur - (j + 1) := by omega
      have w2 : cur - (j + 1) ≤ cur := by omega
      refine mv_Y_has hc w1 w2 h3 (hL _ w1 w2) ?_
      by_cases z : mv_lk k (L (cur - (j + 1))) = none
      · rw [mv_hb, if_pos z]
        have ja : ¬ j < a := fun t => by
          have t2 := hy j t
          rw [z] at t2
          cases t2
        exact br_t rfl (nm_r (nI_1 i) (ih (i + 1) j (by omega) hj (by omega)))
      · rw [mv_hb, if_neg z]
        refine br_f (by decide) (mv_Y_get hc w1 w2 h3 (hL _ w1 w2) (mv_Y_get hc h0 (by omega) h3 (hL _ h0 (by omega)) ?_))
        rw [e]
        refine br_c (fun t => ?_) (fun t => nm_r (nI_1 i) ?_)
        · have t2 : mv_lk k (L (cur - (j + 1))) = some v := (mv_gv_eq z).mp t
          have ja : j ≠ a := by
            intro t3
            subst t3
            cases hn with
            | inl t4 => exact q t4
            | inr t4 => exact t4 t2
          exact nm_e (nm_r (nI_1 i) (ih (i + 1) (j + 1) (by omega) (by omega) (by omega)))
        · have ja : ¬ j < a := fun t3 => t ((mv_gv_eq z).mpr (hy j t3))
          exact ih (i + 1) j (by omega) hj (by omega)
theorem mv_Y_si1 {post : Int32 → Prop} {k v : Int32} {old cur a : Nat} {K V S : Nat → Int32} {L : Nat → List mv_P} (hc : cur < 2 ^ 30) (h0 : old ≤ cur) (h3 : cur ≤ old + 40) (hL : ∀ w, old ≤ w → w ≤ cur → mv_ok K V S (w - old) (L w)) (e : mv_lk k (L cur) = some v) (ha : a ≤ cur - old) (hy : ∀ j, j < a → mv_lk k (L (cur - (j + 1))) = some v) (hn : a = cur - old ∨ ¬ mv_lk k (L (cur - (a + 1))) = some v) (hp : post (nI (cur - a))) : wpY_since post (nI old, nI cur, K, V, S) k := by
  unfold wpY_since
  refine mv_Y_has hc h0 (by omega) h3 (hL _ h0 (by omega)) ?_
  rw [e, show mv_hb (some v) = 1 from if_neg (by intro z; cases z)]
  exact br_f (by decide) ⟨_, mv_Y_sil hc h0 h3 hL e ha hy hn hp 40 0 0 (by omega) (by omega) (by omega)⟩
end
section
/-! the mathematics: what the two orders have in common -/
theorem mv_so_kd {l : List mv_P} (h : mv_so l) : mv_kd l := List.Pairwise.imp (fun {a b} q => by intro e; rw [e] at q; exact Int32.lt_irrefl q) h
theorem mv_kd_pm {l m : List mv_P} (p : l.Perm m) (h : mv_kd l) : mv_kd m := List.Perm.pairwise p h (fun {x y} q => fun e => q e.symm)
theorem mv_lk_mem {k v : Int32} {l : List mv_P} (h : mv_kd l) : mv_lk k l = some v ↔ (k, v) ∈ l := by
  induction l with
  | nil =>
    constructor
    · intro e; cases e
    · intro e; cases e
  | cons p t ih =>
    obtain ⟨h1, h2⟩ := List.pairwise_cons.mp h
    rw [mv_lk, List.mem_cons]
    by_cases e : p.1 = k
    · rw [if_pos e]
      constructor
      · intro z
        refine Or.inl ?_
        rw [← e, ← Option.some.inj z]
      · intro z
        cases z with
        | inl z => rw [← z]
        | inr z => exact absurd e (h1 _ z)
    · rw [if_neg e, ih h2]
      constructor
      · exact Or.inr
      · intro z
        cases z with
        | inl z => exact absurd (by rw [← z]) e
        | inr z => exact z
theorem mv_lk_pm {l m : List mv_P} (k : Int32) (p : l.Perm m) (h : mv_kd l) : mv_lk k l = mv_lk k m := by
  have h' := mv_kd_pm p h
  cases e : mv_lk k l with
  | none =>
    cases e' : mv_lk k m with
    | none => rfl
    | some v =>
      have q := (mv_lk_mem h).mpr (p.mem_iff.mpr ((mv_lk_mem h').mp e'))
      rw [e] at q
      cases q
  | some v => exact ((mv_lk_mem h').mpr (p.mem_iff.mp ((mv_lk_mem h).mp e))).symm
theorem mv_sm_pm {l m : List mv_P} (f : mv_P → Int32) (p : l.Perm m) : mv_sm f l = mv_sm f m := by
  induction p with
  | nil => rfl
  | cons x _ ih => rw [mv_sm, mv_sm, ih]
  | swap x y t => rw [mv_sm, mv_sm, mv_sm, mv_sm, mv_ad, mv_ad, Int32.add_comm (f y) (f x)]
  | trans _ _ a b => exact a.trans b
theorem mv_sm_cg {f g : mv_P → Int32} {l : List mv_P} (h : ∀ p, p ∈ l → f p = g p) : mv_sm f l = mv_sm g l := by
  induction l with
  | nil => rfl
  | cons p t ih => rw [mv_sm, mv_sm, h p List.mem_cons_self, ih (fun q hq => h q (List.mem_cons_of_mem _ hq))]
theorem mv_sm_ad (f g : mv_P → Int32) (l : List mv_P) : mv_sm (fun p => f p + g p) l = mv_sm f l + mv_sm g l := by
  induction l with
  | nil => rfl
  | cons p t ih =>
    rw [mv_sm, mv_sm, mv_sm, ih]
    generalize mv_sm f t = a
    generalize mv_sm g t = b
    generalize f p = c
    generalize g p = d
    grind
theorem mv_sm_0 (l : List mv_P) : mv_sm (fun _ => 0) l = 0 := by
  induction l with
  | nil => rfl
  | cons p t ih => rw [mv_sm, ih]; rfl
theorem mv_sm_ap (f : mv_P → Int32) (A B : List mv_P) : mv_sm f (A ++ B) = mv_sm f A + mv_sm f B := by
  induction A with
  | nil => rw [List.nil_append, mv_sm, Int32.zero_add]
  | cons p t ih => rw [List.cons_append, mv_sm, mv_sm, ih, mv_ad]
theorem mv_sm_ex (e : mv_P → mv_P → Int32) (A B : List mv_P) : mv_sm (fun p => mv_sm (e p) B) A = mv_sm (fun q => mv_sm (fun p => e p q) A) B := by
  induction A with
  | nil => exact (mv_sm_0 B).symm
  | cons p t ih =>
    rw [mv_sm, ih, ← mv_sm_ad]
    exact mv_sm_cg (fun q _ => rfl)
noncomputable def mv_in (lo hi : Int32) (m : List mv_P) (p : mv_P) : Int32 := by
  classical exact if mv_wi lo hi p.1 ∧ ¬ mv_lk p.1 m = none then 1 else 0
noncomputable def mv_eq (lo hi : Int32) (p q : mv_P) : Int32 := by
  classical exact if mv_wi lo hi p.1 ∧ p.1 = q.1 then 1 else 0
theorem mv_eq_c (lo hi : Int32) (p q : mv_P) : mv_eq lo hi p q = mv_eq lo hi q p := by
  unfold mv_eq
  by_cases e : p.1 = q.1
  · rw [e]
  · rw [if_neg (fun z => e z.2), if_neg (fun z => e z.2.symm)]
theorem mv_in_sm (lo hi : Int32) (p : mv_P) {m : List mv_P} (h : mv_kd m) : mv_in lo hi m p = mv_sm (mv_eq lo hi p) m := by
  induction m with
  | nil =>
    unfold mv_in
    rw [if_neg (fun z => z.2 rfl)]
    rfl
  | cons q t ih =>
    obtain ⟨h1, h2⟩ := List.pairwise_cons.mp h
    rw [mv_sm, ← ih h2]
    unfold mv_in mv_eq
    rw [mv_lk]
    by_cases e : q.1 = p.1
    · have n : mv_lk p.1 t = none := mv_lk_no t (fun r hr z => h1 r hr (e.trans z.symm))
      rw [if_pos e, n]
      by_cases w : mv_wi lo hi p.1
      · rw [if_pos ⟨w, fun z => by cases z⟩, if_pos ⟨w, e.symm⟩, if_neg (fun z => z.2 rfl)]
        rfl
      · rw [if_neg (fun z => w z.1), if_neg (fun z => w z.1), if_neg (fun z => w z.1)]
        rfl
    · rw [if_neg e, if_neg (c := mv_wi lo hi p.1 ∧ p.1 = q.1) (fun z => e z.2.symm), Int32.zero_add]
theorem mv_in_ex (lo hi : Int32) {A B : List mv_P} (hA : mv_kd A) (hB : mv_kd B) : mv_sm (mv_in lo hi B) A = mv_sm (mv_in lo hi A) B := by
  rw [mv_sm_cg (fun p _ => mv_in_sm lo hi p hB), mv_sm_ex, mv_sm_cg (g := mv_in lo hi A) (fun q _ => ?_)]
  rw [mv_in_sm lo hi q hA]
  exact mv_sm_cg (fun p _ => mv_eq_c lo hi p q)
theorem mv_d13 (lo hi : Int32) (m : List mv_P) (p : mv_P) : mv_d1 lo hi m p = mv_d3 lo hi m p + mv_in lo hi m p := by
  by_cases w : mv_wi lo hi p.1
  · by_cases n : mv_lk p.1 m = none
    · rw [mv_d1b w (by rw [n]; intro z; cases z), mv_d3a w n, mv_in, if_neg (fun z => z.2 n)]
      rfl
    · rw [mv_in, if_pos ⟨w, n⟩]
      by_cases e : mv_lk p.1 m = some p.2
      · rw [mv_d1a w e, mv_d3b w n e]
        rfl
      · rw [mv_d1b w e, mv_d3c w n e]
        rfl
  · rw [mv_d1f w, mv_d3f w, mv_in, if_neg (fun z => w z.1)]
    rfl
theorem mv_c12 (lo hi : Int32) (m : List mv_P) (p : mv_P) : mv_c1 lo hi p = mv_d2 lo hi m p + mv_in lo hi m p := by
  by_cases w : mv_wi lo hi p.1
  · by_cases n : mv_lk p.1 m = none
    · rw [mv_c1t w, mv_d2a w n, mv_in, if_neg (fun z => z.2 n)]
      rfl
    · rw [mv_in, if_pos ⟨w, n⟩, mv_c1t w, mv_d2b w n]
      rfl
  · rw [mv_c1f w, mv_d2f w, mv_in, if_neg (fun z => w z.1)]
    rfl
theorem mv_di (lo hi : Int32) {A B A' B' : List mv_P} (hA : mv_kd A) (hB : mv_kd B) (pA : A.Perm A') (pB : B.Perm B') : mv_sm (mv_c1 lo hi) B' + mv_sm (mv_d3 lo hi B') A' = mv_sm (mv_d1 lo hi B) A + mv_sm (mv_d2 lo hi A) B := by
  rw [← mv_sm_pm _ pB, ← mv_sm_pm _ pA]
  rw [mv_sm_cg (f := mv_d3 lo hi B') (g := mv_d3 lo hi B) (fun p _ => by unfold mv_d3; rw [mv_lk_pm p.1 pB hB])]
  rw [mv_sm_cg (f := mv_c1 lo hi) (fun p _ => mv_c12 lo hi A p), mv_sm_cg (f := mv_d1 lo hi B) (fun p _ => mv_d13 lo hi B p), mv_sm_ad, mv_sm_ad, mv_in_ex lo hi hA hB]
  generalize mv_sm (mv_d2 lo hi A) B = a
  generalize mv_sm (mv_in lo hi A) B = b
  generalize mv_sm (mv_d3 lo hi B) A = c
  grind
/-- next -/
theorem mv_nb_ch (k : Int32) : ∀ (m : List mv_P) (x : Int32), mv_nb k x m ≤ x ∧ (∀ p, p ∈ m → ¬ p.1 ≤ k → mv_nb k x m ≤ p.1) ∧ (mv_nb k x m = x ∨ ∃ p, p ∈ m ∧ ¬ p.1 ≤ k ∧ mv_nb k x m = p.1) := by
  intro m
  induction m with
  | nil =>
    intro x
    exact ⟨Int32.le_refl _, fun p hp => absurd hp List.not_mem_nil, Or.inl rfl⟩
  | cons q t ih =>
    intro x
    rw [mv_nb]
    by_cases a : q.1 ≤ k
    · rw [if_pos a]
      obtain ⟨i1, i2, i3⟩ := ih x
      refine ⟨i1, fun p hp hk => ?_, ?_⟩
      · cases List.mem_cons.mp hp with
        | inl e => rw [e] at hk; exact absurd a hk
        | inr e => exact i2 p e hk
      · cases i3 with
        | inl e => exact Or.inl e
        | inr e =>
          obtain ⟨p, e1, e2, e3⟩ := e
          exact Or.inr ⟨p, List.mem_cons_of_mem _ e1, e2, e3⟩
    · rw [if_neg a]
      by_cases b : x ≤ q.1
      · rw [if_pos b]
        obtain ⟨i1, i2, i3⟩ := ih x
        refine ⟨i1, fun p hp hk => ?_, ?_⟩
        · cases List.mem_cons.mp hp with
          | inl e => rw [e]; exact Int32.le_trans i1 b
          | inr e => exact i2 p e hk
        · cases i3 with
          | inl e => exact Or.inl e
          | inr e =>
            obtain ⟨p, e1, e2, e3⟩ := e
            exact Or.inr ⟨p, List.mem_cons_of_mem _ e1, e2, e3⟩
      · rw [if_neg b]
        obtain ⟨i1, i2, i3⟩ := ih q.1
        refine ⟨Int32.le_trans i1 (Int32.le_of_lt (Int32.not_le.mp b)), fun p hp hk => ?_, ?_⟩
        · cases List.mem_cons.mp hp with
          | inl e => rw [e]; exact i1
          | inr e => exact i2 p e hk
        · cases i3 with
          | inl e => exact Or.inr ⟨q, List.mem_cons_self, a, e⟩
          | inr e =>
            obtain ⟨p, e1, e2, e3⟩ := e
            exact Or.inr ⟨p, List.mem_cons_of_mem _ e1, e2, e3⟩
theorem mv_nx_ch (k : Int32) : ∀ (m : List mv_P), mv_so m → mv_kr m → mv_nx k m ≤ 100000 ∧ (∀ p, p ∈ m → ¬ p.1 ≤ k → mv_nx k m ≤ p.1) ∧ (mv_nx k m = 100000 ∨ ∃ p, p ∈ m ∧ ¬ p.1 ≤ k ∧ mv_nx k m = p.1) := by
  intro m
  induction m with
  | nil =>
    intro _ _
    exact ⟨Int32.le_refl _, fun p hp => absurd hp List.not_mem_nil, Or.inl rfl⟩
  | cons q t ih =>
    intro hs hr
    obtain ⟨s1, s2⟩ := List.pairwise_cons.mp hs
    rw [mv_nx]
    by_cases a : q.1 ≤ k
    · rw [if_pos a]
      obtain ⟨i1, i2, i3⟩ := ih s2 (fun p hp => hr p (List.mem_cons_of_mem _ hp))
      refine ⟨i1, fun p hp hk => ?_, ?_⟩
      · cases List.mem_cons.mp hp with
        | inl e => rw [e] at hk; exact absurd a hk
        | inr e => exact i2 p e hk
      · cases i3 with
        | inl e => exact Or.inl e
        | inr e =>
          obtain ⟨p, e1, e2, e3⟩ := e
          exact Or.inr ⟨p, List.mem_cons_of_mem _ e1, e2, e3⟩
    · rw [if_neg a]
      refine ⟨Int32.le_trans (hr q List.mem_cons_self) (by decide), fun p hp hk => ?_, Or.inr ⟨q, List.mem_cons_self, a, rfl⟩⟩
      cases List.mem_cons.mp hp with
      | inl e => rw [e]; exact Int32.le_refl _
      | inr e => exact Int32.le_of_lt (s1 p e)
theorem mv_nxt (k : Int32) {l m : List mv_P} (p : l.Perm m) (hs : mv_so l) (hr : mv_kr l) : mv_nb k 100000 m = mv_nx k l := by
  obtain ⟨a1, a2, a3⟩ := mv_nb_ch k m 100000
  obtain ⟨b1, b2, b3⟩ := mv_nx_ch k l hs hr
  apply Int32.le_antisymm
  · cases b3 with
    | inl e => rw [e]; exact a1
    | inr e =>
      obtain ⟨q, e1, e2, e3⟩ := e
      rw [e3]
      exact a2 q (p.mem_iff.mp e1) e2
  · cases a3 with
    | inl e => rw [e]; exact b1
    | inr e =>
      obtain ⟨q, e1, e2, e3⟩ := e
      rw [e3]
      exact b2 q (p.mem_iff.mpr e1) e2
/-- keyAt -/
theorem mv_rk_so {A B : List mv_P} {p : mv_P} (h : mv_so (A ++ p :: B)) : mv_sm (mv_rk p.1) (A ++ p :: B) = nI A.length := by
  obtain ⟨h1, h2, h3⟩ := List.pairwise_append.mp h
  obtain ⟨h4, h5⟩ := List.pairwise_cons.mp h2
  have hA : ∀ (t : List mv_P), (∀ q, q ∈ t → q.1 < p.1) → mv_sm (mv_rk p.1) t = nI t.length := by
    intro t
    induction t with
    | nil => intro _; rfl
    | cons q t ih =>
      intro hq
      rw [mv_sm, ih (fun r hr => hq r (List.mem_cons_of_mem _ hr)), mv_rk, if_neg (Int32.not_le.mpr (hq q List.mem_cons_self)), List.length_cons, Int32.add_comm, nI_1]
  have hB : mv_sm (mv_rk p.1) B = 0 := by
    rw [mv_sm_cg (g := fun _ => 0) (fun q hq => ?_), mv_sm_0]
    rw [mv_rk, if_pos (Int32.le_of_lt (h4 q hq))]
  rw [mv_sm_ap, mv_sm, hB, hA A (fun q hq => h3 q hq p List.mem_cons_self), mv_rk, if_pos (Int32.le_refl _)]
  exact Int32.add_zero _
theorem mv_ka_ch (R : Int32 → Int32) (x : Int32) (m : List mv_P) : (mv_ka R x m = 100000 ∧ ∀ p, p ∈ m → R p.1 ≠ x) ∨ ∃ p, p ∈ m ∧ R p.1 = x ∧ mv_ka R x m = p.1 := by
  induction m with
  | nil => exact Or.inl ⟨rfl, fun p hp => absurd hp List.not_mem_nil⟩
  | cons q t ih =>
    rw [mv_ka]
    by_cases e : R q.1 = x
    · rw [if_pos e]
      exact Or.inr ⟨q, List.mem_cons_self, e, rfl⟩
    · rw [if_neg e]
      cases ih with
      | inl i =>
        refine Or.inl ⟨i.1, fun p hp => ?_⟩
        cases List.mem_cons.mp hp with
        | inl z => rw [z]; exact e
        | inr z => exact i.2 p z
      | inr i =>
        obtain ⟨p, e1, e2, e3⟩ := i
        exact Or.inr ⟨p, List.mem_cons_of_mem _ e1, e2, e3⟩
theorem mv_ka0 {x : Int32} {l m : List mv_P} (pm : l.Perm m) (hs : mv_so l) (h : ∀ A p B, l = A ++ p :: B → x ≠ nI A.length) : mv_ka (fun g => mv_sm (mv_rk g) m) x m = 100000 := by
  cases mv_ka_ch (fun g => mv_sm (mv_rk g) m) x m with
  | inl a => exact a.1
  | inr a =>
    obtain ⟨p, e1, e2, e3⟩ := a
    obtain ⟨A, B, e⟩ := List.append_of_mem (pm.mem_iff.mpr e1)
    rw [← mv_sm_pm _ pm, e, mv_rk_so (e ▸ hs)] at e2
    exact absurd e2.symm (h A p B e)
theorem mv_ka1 {x : Int32} {l m A B : List mv_P} {p : mv_P} (pm : l.Perm m) (hs : mv_so l) (hl : l.length ≤ 28) (h : l = A ++ p :: B) (hx : x = nI A.length) : mv_ka (fun g => mv_sm (mv_rk g) m) x m = p.1 := by
  cases mv_ka_ch (fun g => mv_sm (mv_rk g) m) x m with
  | inl a =>
    refine absurd ?_ (a.2 p (pm.mem_iff.mp (by rw [h]; exact List.mem_append_right _ List.mem_cons_self)))
    rw [← mv_sm_pm _ pm, h, mv_rk_so (h ▸ hs), hx]
  | inr a =>
    obtain ⟨q, e1, e2, e3⟩ := a
    obtain ⟨C, D, e⟩ := List.append_of_mem (pm.mem_iff.mpr e1)
    rw [← mv_sm_pm _ pm, e, mv_rk_so (e ▸ hs), hx] at e2
    have z := h.symm.trans e
    have l1 : A.length ≤ 28 := by rw [h, List.length_append] at hl; omega
    have l2 : C.length ≤ 28 := by rw [e, List.length_append] at hl; omega
    rw [nI_eq (by omega) (by omega)] at e2
    have z2 := (List.append_inj z e2.symm).2
    injection z2 with z3 z4
    rw [e3, z3]
/-- since -/
theorem mv_far (Q : Nat → Prop) (D : Nat) : ∃ a, a ≤ D ∧ (∀ j, j < a → Q (j + 1)) ∧ (a = D ∨ ¬ Q (a + 1)) := by
  induction D with
  | zero => exact ⟨0, by omega, fun j hj => by omega, Or.inl rfl⟩
  | succ D ih =>
    obtain ⟨a, h1, h2, h3⟩ := ih
    by_cases q : Q (a + 1)
    · cases h3 with
      | inl e =>
        subst e
        refine ⟨a + 1, by omega, fun j hj => ?_, Or.inl rfl⟩
        by_cases t : j < a
        · exact h2 j t
        · rw [show j = a from by omega]; exact q
      | inr e => exact absurd q e
    · exact ⟨a, by omega, h2, Or.inr q⟩
end
section
/-! X: copyToNewVersion, insertCell, replaceValue, removeCell -/
theorem mv_X_cpl {post : SX → Prop} {s ns n : Nat} {o c : Int32} {K0 V0 S : Nat → Int32} (hs : s < 41) (hns : ns < 41) (ne : s ≠ ns) (hS : S s = nI n) (hn : n ≤ 28) (hp : ∀ K V, mv_fr ns K0 K → mv_fr ns V0 V → (∀ j, j < n → K (ns * 28 + j) = K0 (s * 28 + j) ∧ V (ns * 28 + j) = V0 (s * 28 + j)) → post (o, c + 1, nI ns, K, V, upd S ns (nI n))) : ∀ (d i : Nat) (K V : Nat → Int32), i + d = n → mv_fr ns K0 K → mv_fr ns V0 V → (∀ j, j < i → K (ns * 28 + j) = K0 (s * 28 + j) ∧ V (ns * 28 + j) = V0 (s * 28 + j)) → wX_copyToNewVersion_40 post (nI ns) (nI (s * 28)) (nI (ns * 28)) o c (nI s) (d + 1) (nI i) K V S := by
  intro d
  induction d with
  | zero =>
    intro i K V h fK fV hj
    have e : i = n := by omega
    subst e
    rw [wX_copyToNewVersion_40]
    dsimp only
    rw [nI_clamp (n := s) (by omega), hS, nI_clamp (n := ns) (by omega)]
    exact ⟨vp_in_nI hs (by omega), br_t (Int32.le_refl _) ⟨vp_in_nI hs (by omega), vp_in_nI hns (by omega), nm_e (nm_e (hp K V fK fV hj))⟩⟩
  | succ d ih =>
    intro i K V h fK fV hj
    have o1 : s * 28 + i < ns * 28 ∨ ns * 28 + 28 ≤ s * 28 + i := by omega
    rw [wX_copyToNewVersion_40]
    dsimp only
    rw [nI_clamp (n := s) (by omega), hS, nI_add (s * 28) i, nI_add (ns * 28) i, nI_clamp (n := s * 28 + i) (by omega), nI_clamp (n := ns * 28 + i) (by omega), fK _ o1, fV _ o1]
    refine ⟨vp_in_nI hs (by omega), br_f (nI_ge (by omega) (by omega)) ⟨vp_in_nI (by omega) (by omega), vp_in_nI (by omega) (by omega), nm_e ⟨vp_in_nI (by omega) (by omega), vp_in_nI (by omega) (by omega), nm_e (nm_r (nI_1 i) ?_)⟩⟩⟩
    refine ih (i + 1) _ _ (by omega) (mv_fr_up fK (by omega) (by omega)) (mv_fr_up fV (by omega) (by omega)) ?_
    intro j hj'
    by_cases e : j = i
    · subst e
      exact ⟨pk_us, pk_us⟩
    · rw [pk_un (by omega), pk_un (by omega)]
      exact hj j (by omega)
theorem mv_X_cp {post : SX → Prop} {o : Int32} {cur : Nat} {K V S : Nat → Int32} {l : List mv_P} (hl : mv_ok K V S (cur % 41) l) (hp : ∀ K' V' S', mv_fr ((cur + 1) % 41) K K' → mv_fr ((cur + 1) % 41) V V' → (∀ j, j ≠ (cur + 1) % 41 → S' j = S j) → mv_ok K' V' S' ((cur + 1) % 41) l → post (o, nI (cur + 1), nI ((cur + 1) % 41), K', V', S')) : wpX_copyToNewVersion post (o, nI cur, nI (cur % 41), K, V, S) := by
  have m : wX_copyToNewVersion_21 post (nI ((cur + 1) % 41)) o (nI cur) (nI (cur % 41)) K V S := by
    unfold wX_copyToNewVersion_21
    refine mv_X_fc (mv_X_fc ⟨_, mv_X_cpl (K0 := K) (V0 := V) (by omega) (by omega) (by omega) hl.1 hl.2.1 ?_ l.length 0 K V (by omega) (mv_fr_rf _ _) (mv_fr_rf _ _) (fun j hj => by omega)⟩)
    intro K' V' fK fV hj
    rw [nI_1]
    refine hp K' V' _ fK fV (fun j ne => pk_un ne) ⟨pk_us, hl.2.1, mv_rn_sh l _ _ hl.2.2 hj⟩
  unfold wpX_copyToNewVersion
  dsimp only
  rw [nI_1]
  by_cases h : cur % 41 = 40
  · refine br_t (nI_le (a := 41) (by omega) (by omega)) ?_
    rw [show (cur + 1) % 41 = 0 from by omega] at m
    exact m
  · refine br_f (nI_ge (b := 41) (by omega) (by omega)) ?_
    rw [show (cur + 1) % 41 = cur % 41 + 1 from by omega] at m
    exact m
theorem mv_X_inf {post : SX → Prop} {s n : Nat} {o c k v : Int32} {K0 V0 K V S : Nat → Int32} {A B : List mv_P} (hs : s < 41) (hS : S s = nI n) (hn : A.length + B.length = n) (hn' : n < 28) (hA : mv_rn K V (s * 28) A) (hB : mv_rn K V (s * 28 + A.length + 1) B) (fK : mv_fr s K0 K) (fV : mv_fr s V0 V) (hp : ∀ K' V', mv_fr s K0 K' → mv_fr s V0 V' → mv_rn K' V' (s * 28) (A ++ (k, v) :: B) → post (o, c, nI s, K', V', upd S s (nI (n + 1)))) : wX_insertCell_79 post k v (nI (s * 28 + A.length)) o c (nI s) K V S := by
  unfold wX_insertCell_79
  rw [nI_clamp (n := s) (by omega), hS, nI_1, nI_clamp (n := s * 28 + A.length) (by omega)]
  refine ⟨vp_in_nI (by omega) (by omega), nm_e ⟨vp_in_nI (by omega) (by omega), nm_e ⟨vp_in_nI hs (by omega), vp_in_nI hs (by omega), nm_e (hp _ _ (mv_fr_up fK (by omega) (by omega)) (mv_fr_up fV (by omega) (by omega)) ?_)⟩⟩⟩
  refine (mv_rn_ap _ A _).mpr ⟨mv_rn_cg hA (fun j h1 h2 => ⟨pk_un (by omega), pk_un (by omega)⟩), pk_us, pk_us, mv_rn_cg hB (fun j h1 h2 => ⟨pk_un (by omega), pk_un (by omega)⟩)⟩
theorem mv_last {A : List mv_P} {d : Nat} (h : A.length = d + 1) : ∃ A' p, A = A' ++ [p] ∧ A'.length = d := by
  have ne : A ≠ [] := by
    intro z
    rw [z, List.length_nil] at h
    omega
  refine ⟨A.dropLast, A.getLast ne, (List.dropLast_concat_getLast ne).symm, ?_⟩
  rw [List.length_dropLast]
  omega
theorem mv_X_inl {post : SX → Prop} {s n : Nat} {o c k v : Int32} {K0 V0 S : Nat → Int32} {l : List mv_P} (hs : s < 41) (hS : S s = nI n) (hl : l.length = n) (hn' : n < 28) (so : mv_so l) (hk : ∀ p, p ∈ l → p.1 ≠ k) (hp : ∀ K' V' A B, l = A ++ B → (∀ p, p ∈ A → p.1 < k) → (∀ p, p ∈ B → k < p.1) → mv_fr s K0 K' → mv_fr s V0 V' → mv_rn K' V' (s * 28) (A ++ (k, v) :: B) → post (o, c, nI s, K', V', upd S s (nI (n + 1)))) : ∀ (d : Nat) (A B : List mv_P) (K V : Nat → Int32), A.length = d → l = A ++ B → mv_rn K V (s * 28) A → mv_rn K V (s * 28 + d + 1) B → (∀ p, p ∈ B → k < p.1) → mv_fr s K0 K → mv_fr s V0 V → wX_insertCell_22 post k v (nI (s * 28)) o c (nI s) (d + 1) (nI (s * 28 + d)) K V S := by
  intro d
  induction d with
  | zero =>
    intro A B K V hd e hA hB hBk fK fV
    have en : A.length + B.length = n := by rw [← hl, e, List.length_append]
    have eA : A = [] := List.eq_nil_of_length_eq_zero hd
    rw [wX_insertCell_22]
    dsimp only
    rw [← hd]
    rw [← hd] at hB
    refine br_t (nI_le (by omega) (by omega)) (mv_X_inf hs hS en hn' hA hB fK fV (fun K' V' a b r => hp K' V' A B e (fun p hp' => ?_) hBk a b r))
    rw [eA] at hp'
    exact absurd hp' List.not_mem_nil
  | succ d ih =>
    intro A B K V hd e hA hB hBk fK fV
    have en : A.length + B.length = n := by rw [← hl, e, List.length_append]
    obtain ⟨A', p, eA, hd'⟩ := mv_last hd
    have hA2 := hA
    rw [eA] at hA2
    obtain ⟨r1, r2⟩ := (mv_rn_ap _ A' _).mp hA2
    rw [hd'] at r2
    rw [wX_insertCell_22]
    dsimp only
    rw [show s * 28 + (d + 1) = s * 28 + d + 1 from rfl, nI_pred (s * 28 + d), nI_clamp (n := s * 28 + d) (by omega), nI_clamp (n := s * 28 + d + 1) (by omega), r2.1, r2.2.1]
    refine br_f (nI_ge (by omega) (by omega)) ⟨vp_in_nI (by omega) (by omega), br_c (fun a => ?_) (fun a => ⟨vp_in_nI (by omega) (by omega), vp_in_nI (by omega) (by omega), nm_e ⟨vp_in_nI (by omega) (by omega), vp_in_nI (by omega) (by omega), nm_e (nm_r (pk_m1 (s * 28 + d)) ?_)⟩⟩)⟩
    · have hB' : mv_rn K V (s * 28 + A.length + 1) B := by rw [hd]; exact hB
      have r := mv_X_inf (post := post) (o := o) (c := c) (k := k) (v := v) hs hS en hn' hA hB' fK fV (fun K' V' a' b' r' => hp K' V' A B e (fun q hq => ?_) hBk a' b' r')
      · rw [hd] at r
        exact r
      · have pk : p.1 < k := Int32.lt_of_le_of_ne a (hk p (by rw [e, eA]; exact List.mem_append_left _ (List.mem_append_right _ List.mem_cons_self)))
        have so' := so
        rw [e, eA] at so'
        have so2 := (List.pairwise_append.mp (List.pairwise_append.mp so').1).2.2
        rw [eA] at hq
        cases List.mem_append.mp hq with
        | inl z => exact Int32.lt_trans (so2 q z p List.mem_cons_self) pk
        | inr z => rw [List.mem_singleton.mp z]; exact pk
    · refine ih A' (p :: B) _ _ hd' (by rw [e, eA, List.append_assoc]; rfl) (mv_rn_cg r1 (fun j h1 h2 => ⟨pk_un (by omega), pk_un (by omega)⟩)) ⟨pk_us, pk_us, mv_rn_cg hB (fun j h1 h2 => ⟨pk_un (by omega), pk_un (by omega)⟩)⟩ ?_ (mv_fr_up fK (by omega) (by omega)) (mv_fr_up fV (by omega) (by omega))
      intro q hq
      cases List.mem_cons.mp hq with
      | inl z => rw [z]; exact Int32.not_le.mp a
      | inr z => exact hBk q z
theorem mv_X_ins {post : SX → Prop} {s : Nat} {o c k v : Int32} {K V S : Nat → Int32} {l : List mv_P} (hs : s < 41) (hl : mv_ok K V S s l) (hn : l.length < 28) (so : mv_so l) (hk : ∀ p, p ∈ l → p.1 ≠ k) (hp : ∀ K' V' S' A B, l = A ++ B → (∀ p, p ∈ A → p.1 < k) → (∀ p, p ∈ B → k < p.1) → mv_fr s K K' → mv_fr s V V' → (∀ j, j ≠ s → S' j = S j) → mv_ok K' V' S' s (A ++ (k, v) :: B) → post (o, c, nI s, K', V', S')) : wpX_insertCell post (o, c, nI s, K, V, S) k v := by
  unfold wpX_insertCell
  refine mv_X_fc ⟨vp_in_nI hs (by omega), ?_⟩
  rw [nI_clamp (n := s) (by omega), hl.1, nI_add]
  refine nm_e ⟨_, mv_X_inl (K0 := K) (V0 := V) hs hl.1 rfl hn so hk ?_ l.length l [] K V rfl (List.append_nil l).symm hl.2.2 True.intro (fun p hp' => absurd hp' List.not_mem_nil) (mv_fr_rf _ _) (mv_fr_rf _ _)⟩
  intro K' V' A B e hA hB fK fV r
  have en : l.length = A.length + B.length := by rw [e, List.length_append]
  refine hp K' V' _ A B e hA hB fK fV (fun j ne => pk_un ne) ⟨?_, ?_, r⟩
  · rw [pk_us, List.length_append, List.length_cons]
    exact congrArg nI (by omega)
  · rw [List.length_append, List.length_cons]
    omega
theorem mv_X_rep {post : SX → Prop} {s : Nat} {o c k v w : Int32} {K V S : Nat → Int32} {A B : List mv_P} (hs : s < 41) (hl : mv_ok K V S s (A ++ (k, w) :: B)) (hA : ∀ p, p ∈ A → p.1 ≠ k) (hp : ∀ V', mv_fr s V V' → mv_ok K V' S s (A ++ (k, v) :: B) → post (o, c, nI s, K, V', S)) : wpX_replaceValue post (o, c, nI s, K, V, S) k v := by
  unfold wpX_replaceValue
  refine mv_X_cf hs hl ?_
  obtain ⟨h1, h2, h3⟩ := hl
  rw [List.length_append, List.length_cons] at h1 h2
  obtain ⟨r1, r2, r3, r4⟩ := (mv_rn_ap _ A _).mp h3
  rw [mv_fd_ye A _ hA]
  refine br_f (mv_n1 (by omega)) ⟨vp_in_nI (by omega) (by omega), nm_e ?_⟩
  rw [nI_clamp (by omega)]
  refine hp _ (mv_fr_up (mv_fr_rf _ _) (by omega) (by omega)) ⟨?_, ?_, ?_⟩
  · rw [List.length_append, List.length_cons]; exact h1
  · rw [List.length_append, List.length_cons]; exact h2
  · exact (mv_rn_ap _ A _).mpr ⟨mv_rn_cg r1 (fun j a b => ⟨rfl, pk_un (by omega)⟩), r2, pk_us, mv_rn_cg r4 (fun j a b => ⟨rfl, pk_un (by omega)⟩)⟩
theorem mv_X_rml {post : SX → Prop} {s n : Nat} {o c : Int32} {K0 V0 S : Nat → Int32} {l : List mv_P} (hs : s < 41) (hS : S s = nI (n + 1)) (hn : n < 28) (hl : l.length = n) (hp : ∀ K' V', mv_fr s K0 K' → mv_fr s V0 V' → mv_rn K' V' (s * 28) l → post (o, c, nI s, K', V', upd S s (nI n))) : ∀ (t C : List mv_P) (K V : Nat → Int32), l = C ++ t → mv_rn K V (s * 28) C → mv_rn K V (s * 28 + C.length + 1) t → mv_fr s K0 K → mv_fr s V0 V → wX_removeCell_40 post (nI (s * 28 + n)) o c (nI s) (t.length + 1) (nI (s * 28 + C.length)) K V S := by
  intro t
  induction t with
  | nil =>
    intro C K V e hC ht fK fV
    rw [List.append_nil] at e
    have en : C.length = n := by rw [← hl, e]
    rw [wX_removeCell_40]
    dsimp only
    rw [nI_clamp (n := s) (by omega), hS, nI_pred]
    refine br_t (nI_le (by omega) (by omega)) ⟨vp_in_nI hs (by omega), vp_in_nI hs (by omega), nm_e (hp K V fK fV ?_)⟩
    rw [e]
    exact hC
  | cons p t ih =>
    intro C K V e hC ht fK fV
    have en : C.length + t.length + 1 = n := by rw [← hl, e, List.length_append, List.length_cons]; omega
    obtain ⟨r1, r2, r3⟩ := ht
    rw [List.length_cons, wX_removeCell_40]
    dsimp only
    rw [nI_1, nI_clamp (n := s * 28 + C.length) (by omega), nI_clamp (n := s * 28 + C.length + 1) (by omega), r1, r2]
    refine br_f (nI_ge (by omega) (by omega)) ⟨vp_in_nI (by omega) (by omega), vp_in_nI (by omega) (by omega), nm_e ⟨vp_in_nI (by omega) (by omega), vp_in_nI (by omega) (by omega), nm_e (nm_e ?_)⟩⟩
    have r := ih (C ++ [p]) (upd K (s * 28 + C.length) p.1) (upd V (s * 28 + C.length) p.2) (by rw [e, List.append_assoc]; rfl) ((mv_rn_ap _ C _).mpr ⟨mv_rn_cg hC (fun j h1 h2 => ⟨pk_un (by omega), pk_un (by omega)⟩), pk_us, pk_us, True.intro⟩) ?_ (mv_fr_up fK (by omega) (by omega)) (mv_fr_up fV (by omega) (by omega))
    · rw [List.length_append, List.length_singleton] at r
      exact r
    · rw [List.length_append, List.length_singleton]
      exact mv_rn_cg r3 (fun j h1 h2 => ⟨pk_un (by omega), pk_un (by omega)⟩)
theorem mv_X_rem {post : SX → Prop} {s : Nat} {o c k w : Int32} {K V S : Nat → Int32} {A B : List mv_P} (hs : s < 41) (hl : mv_ok K V S s (A ++ (k, w) :: B)) (hA : ∀ p, p ∈ A → p.1 ≠ k) (hp : ∀ K' V' S', mv_fr s K K' → mv_fr s V V' → (∀ j, j ≠ s → S' j = S j) → mv_ok K' V' S' s (A ++ B) → post (o, c, nI s, K', V', S')) : wpX_removeCell post (o, c, nI s, K, V, S) k := by
  unfold wpX_removeCell
  refine mv_X_cf hs hl ?_
  obtain ⟨h1, h2, h3⟩ := hl
  rw [List.length_append, List.length_cons, show A.length + (B.length + 1) = A.length + B.length + 1 from rfl] at h1 h2
  obtain ⟨r1, r2, r3, r4⟩ := (mv_rn_ap _ A _).mp h3
  rw [mv_fd_ye A _ hA]
  refine br_f (mv_n1 (by omega)) (mv_X_fc ⟨vp_in_nI hs (by omega), ?_⟩)
  rw [nI_clamp (n := s) (by omega), h1, nI_add, show s * 28 + (A.length + B.length + 1) = s * 28 + (A.length + B.length) + 1 from rfl, nI_pred]
  refine nm_e ⟨_, mv_X_rml (K0 := K) (V0 := V) (l := A ++ B) hs h1 (by omega) (by rw [List.length_append]) ?_ B A K V rfl r1 r4 (mv_fr_rf _ _) (mv_fr_rf _ _)⟩
  intro K' V' fK fV r
  refine hp K' V' _ fK fV (fun j ne => pk_un ne) ⟨?_, ?_, r⟩
  · rw [pk_us, List.length_append]
  · rw [List.length_append]; omega
end
section
/-! Y: copy, put, erase, forget -/
theorem mv_Y_cpl {post : SY → Prop} {f t : Nat} {o c : Int32} {K0 V0 S : Nat → Int32} (hf : f < 41) (ht : t < 41) (hp : ∀ K V, mv_fr t K0 K → mv_fr t V0 V → (∀ j, j < 28 → K (t * 28 + j) = K0 (f * 28 + j) ∧ V (t * 28 + j) = V0 (f * 28 + j)) → post (o, c, K, V, upd S t (S f))) : ∀ (d i : Nat) (K V : Nat → Int32), i + d = 28 → (∀ j, (j < t * 28 ∨ t * 28 + i ≤ j) → K j = K0 j ∧ V j = V0 j) → (∀ j, j < i → K (t * 28 + j) = K0 (f * 28 + j) ∧ V (t * 28 + j) = V0 (f * 28 + j)) → wY_copy_2 post (nI f) (nI t) o c (d + 1) (nI i) K V S := by
  intro d
  induction d with
  | zero =>
    intro i K V h fr hj
    have e : i = 28 := by omega
    subst e
    rw [wY_copy_2]
    dsimp only
    rw [nI_clamp (n := f) (by omega), nI_clamp (n := t) (by omega)]
    exact br_t (nI_le (a := 28) (by omega) (by omega)) ⟨vp_in_nI hf (by omega), vp_in_nI ht (by omega), nm_e (hp K V (fun j h => (fr j h).1) (fun j h => (fr j h).2) hj)⟩
  | succ d ih =>
    intro i K V h fr hj
    have o1 : f * 28 + i < t * 28 ∨ t * 28 + i ≤ f * 28 + i := by omega
    rw [wY_copy_2]
    dsimp only
    rw [mv_m28, mv_m28, nI_add (f * 28) i, nI_add (t * 28) i, nI_clamp (n := f * 28 + i) (by omega), nI_clamp (n := t * 28 + i) (by omega), (fr _ o1).1, (fr _ o1).2]
    refine br_f (nI_ge (b := 28) (by omega) (by omega)) ⟨vp_in_nI (by omega) (by omega), vp_in_nI (by omega) (by omega), nm_e ⟨vp_in_nI (by omega) (by omega), vp_in_nI (by omega) (by omega), nm_e (nm_r (nI_1 i) ?_)⟩⟩
    refine ih (i + 1) _ _ (by omega) ?_ ?_
    · intro j hj'
      rw [pk_un (by omega), pk_un (by omega)]
      exact fr j (by omega)
    · intro j hj'
      by_cases e : j = i
      · subst e
        exact ⟨pk_us, pk_us⟩
      · rw [pk_un (by omega), pk_un (by omega)]
        exact hj j (by omega)
theorem mv_Y_cp {post : SY → Prop} {f t : Nat} {o c : Int32} {K V S : Nat → Int32} (hf : f < 41) (ht : t < 41) (hp : ∀ K' V' S', mv_fr t K K' → mv_fr t V V' → (∀ j, j ≠ t → S' j = S j) → (∀ l, mv_ok K V S f l → mv_ok K' V' S' t l) → post (o, c, K', V', S')) : wpY_copy post (o, c, K, V, S) (nI f) (nI t) := by
  unfold wpY_copy
  refine ⟨_, mv_Y_cpl (K0 := K) (V0 := V) hf ht ?_ 28 0 K V (by omega) (fun j _ => ⟨rfl, rfl⟩) (fun j hj => by omega)⟩
  intro K' V' fK fV hj
  refine hp K' V' _ fK fV (fun j ne => pk_un ne) (fun l hl => ⟨pk_us.trans hl.1, hl.2.1, mv_rn_sh l _ _ hl.2.2 (fun j h => hj j ?_)⟩)
  have := hl.2.1
  omega
theorem mv_Y_pt {post : Int32 → SY → Prop} {t a : Nat} {o c k v : Int32} {K V S : Nat → Int32} {A B : List mv_P} (ht : t < 41) (ha : a = t * 28 + A.length) (hn : A.length + B.length < 28) (hS : S t = nI (A.length + B.length + 1)) (hA : mv_rn K V (t * 28) A) (hB : mv_rn K V (t * 28 + A.length + 1) B) (hp : ∀ K' V', mv_fr t K K' → mv_fr t V V' → mv_ok K' V' S t (A ++ (k, v) :: B) → post c (o, c, K', V', S)) : wY_put_120 post k v (nI a) o c K V S := by
  subst ha
  unfold wY_put_120
  rw [nI_clamp (by omega)]
  refine ⟨vp_in_nI (by omega) (by omega), nm_e ⟨vp_in_nI (by omega) (by omega), nm_e (hp _ _ (mv_fr_up (mv_fr_rf _ _) (by omega) (by omega)) (mv_fr_up (mv_fr_rf _ _) (by omega) (by omega)) ⟨?_, ?_, ?_⟩)⟩⟩
  · rw [hS, List.length_append, List.length_cons]
    rfl
  · rw [List.length_append, List.length_cons]
    omega
  · exact (mv_rn_ap _ A _).mpr ⟨mv_rn_cg hA (fun j h1 h2 => ⟨pk_un (by omega), pk_un (by omega)⟩), pk_us, pk_us, mv_rn_cg hB (fun j h1 h2 => ⟨pk_un (by omega), pk_un (by omega)⟩)⟩
theorem mv_Y_put {post : Int32 → SY → Prop} {s cur : Nat} {o k v : Int32} {K V S : Nat → Int32} {m : List mv_P} (hs : s < 40) (hm : mv_ok K V S s m) (hr : (∀ p, p ∈ m → p.1 ≠ k) → m.length < 28) (hp : ∀ K' V' S' m', mv_fr (s + 1) K K' → mv_fr (s + 1) V V' → (∀ j, j ≠ s + 1 → S' j = S j) → mv_ok K' V' S' (s + 1) m' → (((∀ p, p ∈ m → p.1 ≠ k) ∧ m' = m ++ [(k, v)]) ∨ ∃ A w B, m = A ++ (k, w) :: B ∧ m' = A ++ (k, v) :: B) → post (nI (cur + 1)) (o, nI (cur + 1), K', V', S')) : wY_put_52 post k v (nI s) o (nI cur) K V S := by
  unfold wY_put_52
  rw [nI_1]
  refine mv_Y_cp (by omega) (by omega) ?_
  intro K1 V1 S1 fK fV fS hc
  have h1 := hc m hm
  refine nm_r (nI_1 cur) (mv_Y_ff (by omega) h1 ?_)
  obtain ⟨e1, e2, e3⟩ := h1
  cases mv_cs k m with
  | inl n =>
    rw [mv_fd_no m _ n]
    have hl := hr n
    refine br_f (by decide) ⟨vp_in_nI (by omega) (by omega), ?_⟩
    rw [mv_m28, nI_clamp (n := s + 1) (by omega), e1, nI_add, nI_1]
    refine nm_e ⟨vp_in_nI (by omega) (by omega), vp_in_nI (by omega) (by omega), nm_e ?_⟩
    refine mv_Y_pt (A := m) (B := []) (by omega) rfl (by rw [List.length_nil]; omega) pk_us e3 True.intro ?_
    intro K' V' gK gV ho
    refine hp K' V' _ _ (mv_fr_tr fK gK) (mv_fr_tr fV gV) (fun j ne => (pk_un ne).trans (fS j ne)) ho (Or.inl ⟨n, rfl⟩)
  | inr y =>
    obtain ⟨A, w, B, rfl, hA⟩ := y
    rw [mv_fd_ye A _ hA]
    obtain ⟨r1, r2, r3, r4⟩ := (mv_rn_ap _ A _).mp e3
    rw [List.length_append, List.length_cons] at e1 e2
    refine br_t (nI_pos' (by omega)) (mv_Y_pt (A := A) (B := B) (by omega) rfl (by omega) e1 r1 r4 ?_)
    intro K' V' gK gV ho
    exact hp K' V' _ _ (mv_fr_tr fK gK) (mv_fr_tr fV gV) fS ho (Or.inr ⟨A, w, B, rfl, rfl⟩)
theorem mv_Y_er {post : Int32 → SY → Prop} {old cur : Nat} {k w : Int32} {K V S : Nat → Int32} {A B : List mv_P} (hk : mv_wi (-1000) 1000 k) (h0 : old ≤ cur) (h4 : cur - old < 40) (hm : mv_ok K V S (cur - old) (A ++ (k, w) :: B)) (hA : ∀ p, p ∈ A → p.1 ≠ k) (hp : ∀ K' V' S' m', mv_fr (cur - old + 1) K K' → mv_fr (cur - old + 1) V V' → (∀ j, j ≠ cur - old + 1 → S' j = S j) → mv_ok K' V' S' (cur - old + 1) m' → (A ++ B).Perm m' → post (nI (cur + 1)) (nI old, nI (cur + 1), K', V', S')) : wpY_erase post (nI old, nI cur, K, V, S) k := by
  unfold wpY_erase
  dsimp only
  have hl := hm.2.1
  rw [List.length_append, List.length_cons] at hl
  refine mv_Y_bk (fun a => absurd hk a) (fun _ => br_t rfl (nm_r (pk_sub h0) (mv_Y_ff (by omega) hm ?_)))
  rw [mv_fd_ye A _ hA]
  refine br_t (nI_pos' (by omega)) (br_t (nI_lt (b := 40) (by omega) (by omega)) ?_)
  rw [nI_1]
  generalize hg : cur - old = s at *
  refine mv_Y_cp (by omega) (by omega) ?_
  intro K1 V1 S1 fK fV fS hc
  have h1 := hc _ hm
  refine nm_r (nI_1 cur) (mv_Y_ff (by omega) h1 ?_)
  rw [mv_fd_ye A _ hA]
  dsimp only
  obtain ⟨e1, e2, e3⟩ := h1
  obtain ⟨r1, r2, r3, r4⟩ := (mv_rn_ap _ A _).mp e3
  rw [List.length_append, List.length_cons, show A.length + (B.length + 1) = A.length + B.length + 1 from rfl] at e1
  rw [mv_m28, nI_clamp (n := s + 1) (by omega), e1, nI_add, show (s + 1) * 28 + (A.length + B.length + 1) = (s + 1) * 28 + (A.length + B.length) + 1 from rfl, nI_pred, nI_pred, nI_clamp (n := (s + 1) * 28 + A.length) (by omega)]
  have i1 : vp_in (nI (s + 1)) 41 := vp_in_nI (by omega) (by omega)
  have i2 : vp_in (nI ((s + 1) * 28 + (A.length + B.length))) 1148 := vp_in_nI (by omega) (by omega)
  have i3 : vp_in (nI ((s + 1) * 28 + A.length)) 1148 := vp_in_nI (by omega) (by omega)
  refine ⟨i1, nm_e ⟨i2, i3, nm_e ⟨i2, i3, nm_e ⟨i1, i1, nm_e ?_⟩⟩⟩⟩
  rw [nI_clamp (n := (s + 1) * 28 + (A.length + B.length)) (by omega)]
  cases hB : B.length with
  | zero =>
    have eB : B = [] := List.eq_nil_of_length_eq_zero hB
    refine hp _ _ _ A (mv_fr_tr fK (mv_fr_up (mv_fr_rf _ _) (by omega) (by omega))) (mv_fr_tr fV (mv_fr_up (mv_fr_rf _ _) (by omega) (by omega))) (fun j ne => (pk_un ne).trans (fS j ne)) ⟨pk_us, by omega, mv_rn_cg r1 (fun j a b => ⟨pk_un (by omega), pk_un (by omega)⟩)⟩ ?_
    rw [eB, List.append_nil]
  | succ d =>
    obtain ⟨C, q, eB, hC⟩ := mv_last hB
    rw [eB] at r4
    obtain ⟨t1, t2, t3, _⟩ := (mv_rn_ap _ C _).mp r4
    rw [hC] at t2 t3
    rw [show (s + 1) * 28 + (A.length + (d + 1)) = (s + 1) * 28 + A.length + 1 + d from by omega, t2, t3]
    refine hp _ _ _ (A ++ q :: C) (mv_fr_tr fK (mv_fr_up (mv_fr_rf _ _) (by omega) (by omega))) (mv_fr_tr fV (mv_fr_up (mv_fr_rf _ _) (by omega) (by omega))) (fun j ne => (pk_un ne).trans (fS j ne)) ⟨?_, ?_, ?_⟩ ?_
    · rw [pk_us, List.length_append, List.length_cons, hC]
    · rw [List.length_append, List.length_cons]
      omega
    · exact (mv_rn_ap _ A _).mpr ⟨mv_rn_cg r1 (fun j a b => ⟨pk_un (by omega), pk_un (by omega)⟩), pk_us, pk_us, mv_rn_cg t1 (fun j a b => ⟨pk_un (by omega), pk_un (by omega)⟩)⟩
    · rw [eB]
      exact List.Perm.append_left A (List.perm_append_singleton q C)
theorem mv_Y_fol {post : Int32 → SY → Prop} {old cur w : Nat} {M : Nat → List mv_P} (hc : cur < 2 ^ 30) (h1 : old ≤ w) (h2 : w ≤ cur) (h3 : cur ≤ old + 40) (hp : ∀ K V S, (∀ j, j ≤ cur - w → mv_ok K V S j (M (w + j))) → post (nI (cur - w)) (nI w, nI cur, K, V, S)) : ∀ (r i : Nat) (K V S : Nat → Int32), i + r = cur - w + 1 → (∀ j, j < i → mv_ok K V S j (M (w + j))) → (∀ j, i ≤ j → j ≤ cur - old → mv_ok K V S j (M (old + j))) → wY_forget_20 post (nI w) (nI (w - old)) (r + 1) (nI i) (nI old) (nI cur) K V S := by
  intro r
  induction r with
  | zero =>
    intro i K V S h a b
    rw [wY_forget_20]
    dsimp only
    rw [pk_sub (show old ≤ cur from by omega), nI_add, pk_sub h2]
    exact br_t (nI_lt (by omega) (by omega)) (hp K V S (fun j hj => a j (by omega)))
  | succ r ih =>
    intro i K V S h a b
    rw [wY_forget_20]
    dsimp only
    rw [pk_sub (show old ≤ cur from by omega), nI_add]
    refine br_f (nI_nlt (by omega) (by omega)) (mv_Y_cp (by omega) (by omega) ?_)
    intro K' V' S' fK fV fS hcp
    refine nm_r (nI_1 i) (ih (i + 1) K' V' S' (by omega) ?_ ?_)
    · intro j hj
      by_cases e : j = i
      · subst e
        have q := hcp _ (b (j + (w - old)) (by omega) (by omega))
        rw [show old + (j + (w - old)) = w + j from by omega] at q
        exact q
      · exact mv_ok_fr (a j (by omega)) fK fV fS e
    · intro j hj1 hj2
      exact mv_ok_fr (b j (by omega) hj2) fK fV fS (by omega)
theorem mv_Y_fo {post : Int32 → SY → Prop} {old cur w : Nat} {K V S : Nat → Int32} {M : Nat → List mv_P} (hc : cur < 2 ^ 30) (h1 : old ≤ w) (h2 : w ≤ cur) (h3 : cur ≤ old + 40) (hM : ∀ y, old ≤ y → y ≤ cur → mv_ok K V S (y - old) (M y)) (hp : ∀ K V S, (∀ y, w ≤ y → y ≤ cur → mv_ok K V S (y - w) (M y)) → post (nI (cur - w)) (nI w, nI cur, K, V, S)) : wpY_forget post (nI old, nI cur, K, V, S) (nI w) := by
  unfold wpY_forget
  refine mv_Y_kt (by omega) h1 h2 (br_f (by decide) (nm_r (pk_sub h1) ⟨_, mv_Y_fol (M := M) hc h1 h2 h3 ?_ (cur - w + 1) 0 K V S (by omega) (fun j hj => by omega) ?_⟩))
  · intro K' V' S' h
    refine hp K' V' S' (fun y a b => ?_)
    have q := h (y - w) (by omega)
    rw [show w + (y - w) = y from by omega] at q
    exact q
  · intro j a b
    have q := hM (old + j) (by omega) (by omega)
    rw [show old + j - old = j from by omega] at q
    exact q
end
section
/-! the relation: each kept version is a sorted list in X's ring (slot: the version modulo 41) and the same pairs in any order in Y (slot: the version less the oldest) -/
def mv_vr (kx vx sx ky vy sy : Nat → Int32) (old w : Nat) (l m : List mv_P) : Prop :=
  mv_ok kx vx sx (w % 41) l ∧ mv_ok ky vy sy (w - old) m ∧ l.Perm m ∧ mv_so l ∧ mv_kr l
def i_Rel (k : Nat) (u : SX) (v : SY) : Prop := ∃ (old cur : Nat) (kx vx sx ky vy sy : Nat → Int32) (L M : Nat → List mv_P),
  u = (nI old, nI cur, nI (cur % 41), kx, vx, sx) ∧ v = (nI old, nI cur, ky, vy, sy) ∧ old ≤ cur ∧ cur ≤ old + 40 ∧ cur ≤ k ∧
  ∀ w, old ≤ w → w ≤ cur → mv_vr kx vx sx ky vy sy old w (L w) (M w)
theorem i_up {k : Nat} {u : SX} {v : SY} (h : i_Rel k u v) : i_Rel (k + 5) u v := by
  obtain ⟨old, cur, kx, vx, sx, ky, vy, sy, L, M, e1, e2, h1, h2, h3, h4⟩ := h
  exact ⟨old, cur, kx, vx, sx, ky, vy, sy, L, M, e1, e2, h1, h2, by omega, h4⟩
theorem i_vc0 : wpX_init (fun u => wpY_init (fun v => i_Rel 0 u v)) := by
  unfold wpX_init wpY_init
  refine ⟨0, 0, fun _ => 0, fun _ => 0, fun _ => 0, fun _ => 0, fun _ => 0, fun _ => 0, fun _ => [], fun _ => [], rfl, rfl, by omega, by omega, by omega, ?_⟩
  intro w _ _
  exact ⟨⟨rfl, Nat.zero_le 28, True.intro⟩, ⟨rfl, Nat.zero_le 28, True.intro⟩, List.Perm.refl _, List.Pairwise.nil, fun p hp => absurd hp List.not_mem_nil⟩
theorem i_vc_current {k : Nat} {u : SX} {v : SY} (I : i_Rel k u v) (hk : k + 5 ≤ 2560) : wpX_current (fun r => wpY_current (fun r' => r' = r ∧ i_Rel (k + 5) u v) v) u := by
  have J := i_up I
  obtain ⟨old, cur, kx, vx, sx, ky, vy, sy, L, M, rfl, rfl, h1, h2, h3, h4⟩ := I
  unfold wpX_current wpY_current
  exact ⟨rfl, J⟩
theorem i_vc_oldest {k : Nat} {u : SX} {v : SY} (I : i_Rel k u v) (hk : k + 5 ≤ 2560) : wpX_oldest (fun r => wpY_oldest (fun r' => r' = r ∧ i_Rel (k + 5) u v) v) u := by
  have J := i_up I
  obtain ⟨old, cur, kx, vx, sx, ky, vy, sy, L, M, rfl, rfl, h1, h2, h3, h4⟩ := I
  unfold wpX_oldest wpY_oldest
  exact ⟨rfl, J⟩
theorem i_vc_has {k : Nat} {u : SX} {v : SY} (I : i_Rel k u v) (hk : k + 5 ≤ 2560) (v1 : Int32) (v2 : Int32) : wpX_has (fun r => wpY_has (fun r' => r' = r ∧ i_Rel (k + 5) u v) v v1 v2) u v1 v2 := by
  have J := i_up I
  obtain ⟨old, cur, kx, vx, sx, ky, vy, sy, L, M, rfl, rfl, h1, h2, h3, h4⟩ := I
  cases mv_kc v2 (old := old) (cur := cur) (by omega) (by omega) with
  | inl n =>
    unfold wpX_has
    exact mv_X_kf n (br_t rfl (mv_Y_has0 n ⟨rfl, J⟩))
  | inr y =>
    obtain ⟨w, w1, w2, rfl⟩ := y
    obtain ⟨a1, a2, a3, a4, a5⟩ := h4 w w1 w2
    refine mv_X_has (by omega) w1 w2 h2 a1 (mv_Y_has (by omega) w1 w2 h2 a2 ⟨?_, J⟩)
    rw [mv_lk_pm v1 a3 (mv_so_kd a4)]
theorem i_vc_get {k : Nat} {u : SX} {v : SY} (I : i_Rel k u v) (hk : k + 5 ≤ 2560) (v1 : Int32) (v2 : Int32) : wpX_get (fun r => wpY_get (fun r' => r' = r ∧ i_Rel (k + 5) u v) v v1 v2) u v1 v2 := by
  have J := i_up I
  obtain ⟨old, cur, kx, vx, sx, ky, vy, sy, L, M, rfl, rfl, h1, h2, h3, h4⟩ := I
  cases mv_kc v2 (old := old) (cur := cur) (by omega) (by omega) with
  | inl n =>
    unfold wpX_get
    exact mv_X_kf n (br_t rfl (mv_Y_get0 n ⟨rfl, J⟩))
  | inr y =>
    obtain ⟨w, w1, w2, rfl⟩ := y
    obtain ⟨a1, a2, a3, a4, a5⟩ := h4 w w1 w2
    refine mv_X_get (by omega) w1 w2 h2 a1 (mv_Y_get (by omega) w1 w2 h2 a2 ⟨?_, J⟩)
    rw [mv_lk_pm v1 a3 (mv_so_kd a4)]
theorem i_vc_count {k : Nat} {u : SX} {v : SY} (I : i_Rel k u v) (hk : k + 5 ≤ 2560) (v1 : Int32) (v2 : Int32) (v3 : Int32) : wpX_count (fun r => wpY_count (fun r' => r' = r ∧ i_Rel (k + 5) u v) v v1 v2 v3) u v1 v2 v3 := by
  have J := i_up I
  obtain ⟨old, cur, kx, vx, sx, ky, vy, sy, L, M, rfl, rfl, h1, h2, h3, h4⟩ := I
  cases mv_kc v3 (old := old) (cur := cur) (by omega) (by omega) with
  | inl n =>
    unfold wpX_count wpY_count
    exact mv_X_kf n (br_t rfl (mv_Y_kf n (br_t rfl ⟨rfl, J⟩)))
  | inr y =>
    obtain ⟨w, w1, w2, rfl⟩ := y
    obtain ⟨a1, a2, a3, a4, a5⟩ := h4 w w1 w2
    exact mv_X_cnt (by omega) w1 w2 h2 a1 (mv_Y_cnt (by omega) w1 w2 h2 a2 ⟨(mv_sm_pm _ a3).symm, J⟩)
theorem i_vc_sum {k : Nat} {u : SX} {v : SY} (I : i_Rel k u v) (hk : k + 5 ≤ 2560) (v1 : Int32) (v2 : Int32) (v3 : Int32) : wpX_sum (fun r => wpY_sum (fun r' => r' = r ∧ i_Rel (k + 5) u v) v v1 v2 v3) u v1 v2 v3 := by
  have J := i_up I
  obtain ⟨old, cur, kx, vx, sx, ky, vy, sy, L, M, rfl, rfl, h1, h2, h3, h4⟩ := I
  cases mv_kc v3 (old := old) (cur := cur) (by omega) (by omega) with
  | inl n =>
    unfold wpX_sum wpY_sum
    exact mv_X_kf n (br_t rfl (mv_Y_kf n (br_t rfl ⟨rfl, J⟩)))
  | inr y =>
    obtain ⟨w, w1, w2, rfl⟩ := y
    obtain ⟨a1, a2, a3, a4, a5⟩ := h4 w w1 w2
    exact mv_X_sum (by omega) w1 w2 h2 a1 (mv_Y_sum (by omega) w1 w2 h2 a2 ⟨(mv_sm_pm _ a3).symm, J⟩)
theorem i_vc_next {k : Nat} {u : SX} {v : SY} (I : i_Rel k u v) (hk : k + 5 ≤ 2560) (v1 : Int32) (v2 : Int32) : wpX_next (fun r => wpY_next (fun r' => r' = r ∧ i_Rel (k + 5) u v) v v1 v2) u v1 v2 := by
  have J := i_up I
  obtain ⟨old, cur, kx, vx, sx, ky, vy, sy, L, M, rfl, rfl, h1, h2, h3, h4⟩ := I
  cases mv_kc v2 (old := old) (cur := cur) (by omega) (by omega) with
  | inl n =>
    unfold wpX_next wpY_next
    exact mv_X_kf n (br_t rfl (mv_Y_kf n (br_t rfl ⟨rfl, J⟩)))
  | inr y =>
    obtain ⟨w, w1, w2, rfl⟩ := y
    obtain ⟨a1, a2, a3, a4, a5⟩ := h4 w w1 w2
    exact mv_X_next (by omega) w1 w2 h2 a1 (mv_Y_next (by omega) w1 w2 h2 a2 ⟨mv_nxt v1 a3 a4 a5, J⟩)
theorem i_vc_keyAt {k : Nat} {u : SX} {v : SY} (I : i_Rel k u v) (hk : k + 5 ≤ 2560) (v1 : Int32) (v2 : Int32) : wpX_keyAt (fun r => wpY_keyAt (fun r' => r' = r ∧ i_Rel (k + 5) u v) v v1 v2) u v1 v2 := by
  have J := i_up I
  obtain ⟨old, cur, kx, vx, sx, ky, vy, sy, L, M, rfl, rfl, h1, h2, h3, h4⟩ := I
  cases mv_kc v2 (old := old) (cur := cur) (by omega) (by omega) with
  | inl n =>
    unfold wpX_keyAt wpY_keyAt
    exact mv_X_kf n (br_t rfl (mv_Y_kf n (br_t rfl ⟨rfl, J⟩)))
  | inr y =>
    obtain ⟨w, w1, w2, rfl⟩ := y
    obtain ⟨a1, a2, a3, a4, a5⟩ := h4 w w1 w2
    exact mv_X_kat (by omega) w1 w2 h2 a1 (fun z => mv_Y_kat (by omega) w1 w2 h2 a2 ⟨mv_ka0 a3 a4 z, J⟩) (fun A p B e z => mv_Y_kat (by omega) w1 w2 h2 a2 ⟨mv_ka1 a3 a4 a1.2.1 e z, J⟩)
theorem i_vc_differ {k : Nat} {u : SX} {v : SY} (I : i_Rel k u v) (hk : k + 5 ≤ 2560) (v1 : Int32) (v2 : Int32) (v3 : Int32) (v4 : Int32) : wpX_differ (fun r => wpY_differ (fun r' => r' = r ∧ i_Rel (k + 5) u v) v v1 v2 v3 v4) u v1 v2 v3 v4 := by
  have J := i_up I
  obtain ⟨old, cur, kx, vx, sx, ky, vy, sy, L, M, rfl, rfl, h1, h2, h3, h4⟩ := I
  cases mv_kc v3 (old := old) (cur := cur) (by omega) (by omega) with
  | inl n =>
    unfold wpX_differ wpY_differ
    exact mv_X_kf n (br_t rfl (mv_Y_kf n (br_t rfl ⟨rfl, J⟩)))
  | inr y =>
    obtain ⟨w, w1, w2, rfl⟩ := y
    cases mv_kc v4 (old := old) (cur := cur) (by omega) (by omega) with
    | inl n =>
      unfold wpX_differ wpY_differ
      exact mv_X_kt (by omega) w1 w2 (br_f (by decide) (mv_X_kf n (br_t rfl (mv_Y_kt (by omega) w1 w2 (br_f (by decide) (mv_Y_kf n (br_t rfl ⟨rfl, J⟩)))))))
    | inr y =>
      obtain ⟨z, z1, z2, rfl⟩ := y
      obtain ⟨a1, a2, a3, a4, a5⟩ := h4 w w1 w2
      obtain ⟨b1, b2, b3, b4, b5⟩ := h4 z z1 z2
      exact mv_X_di (by omega) w1 w2 z1 z2 h2 a1 b1 (mv_Y_di (by omega) w1 w2 z1 z2 h2 a2 b2 ⟨mv_di v1 v2 (mv_so_kd a4) (mv_so_kd b4) a3 b3, J⟩)
theorem i_vc_since {k : Nat} {u : SX} {v : SY} (I : i_Rel k u v) (hk : k + 5 ≤ 2560) (v1 : Int32) : wpX_since (fun r => wpY_since (fun r' => r' = r ∧ i_Rel (k + 5) u v) v v1) u v1 := by
  have J := i_up I
  obtain ⟨old, cur, kx, vx, sx, ky, vy, sy, L, M, rfl, rfl, h1, h2, h3, h4⟩ := I
  have hl : ∀ w, old ≤ w → w ≤ cur → mv_lk v1 (L w) = mv_lk v1 (M w) := fun w a b => mv_lk_pm v1 (h4 w a b).2.2.1 (mv_so_kd (h4 w a b).2.2.2.1)
  obtain ⟨a1, a2, a3, a4, a5⟩ := h4 cur h1 (by omega)
  cases e : mv_lk v1 (L cur) with
  | none =>
    refine mv_X_si0 a1 e (mv_Y_si0 (by omega) h1 h2 a2 ?_ ⟨rfl, J⟩)
    rw [← hl cur h1 (by omega)]
    exact e
  | some x =>
    obtain ⟨a, q1, q2, q3⟩ := mv_far (fun j => mv_lk v1 (L (cur - j)) = some x) (cur - old)
    refine mv_X_si1 (L := L) (by omega) h1 h2 (fun w a b => (h4 w a b).1) e q1 q2 q3 (mv_Y_si1 (L := M) (v := x) (by omega) h1 h2 (fun w a b => (h4 w a b).2.1) ?_ q1 (fun j hj => ?_) ?_ ⟨rfl, J⟩)
    · rw [← hl cur h1 (by omega)]
      exact e
    · rw [← hl _ (by omega) (by omega)]
      exact q2 j hj
    · cases q3 with
      | inl z => exact Or.inl z
      | inr z =>
        by_cases t : a = cur - old
        · exact Or.inl t
        · refine Or.inr ?_
          rw [← hl _ (by omega) (by omega)]
          exact z
end
section
/-! put, erase, forget -/
theorem mv_new {k old cur : Nat} {kx vx sx ky vy sy kx' vx' sx' ky' vy' sy' : Nat → Int32} {L M : Nat → List mv_P} {l m : List mv_P} (h1 : old ≤ cur) (h2 : cur - old < 40) (h3 : cur ≤ k) (h4 : ∀ w, old ≤ w → w ≤ cur → mv_vr kx vx sx ky vy sy old w (L w) (M w)) (f1 : mv_fr ((cur + 1) % 41) kx kx') (f2 : mv_fr ((cur + 1) % 41) vx vx') (f3 : ∀ j, j ≠ (cur + 1) % 41 → sx' j = sx j) (g1 : mv_fr (cur - old + 1) ky ky') (g2 : mv_fr (cur - old + 1) vy vy') (g3 : ∀ j, j ≠ cur - old + 1 → sy' j = sy j) (hl : mv_ok kx' vx' sx' ((cur + 1) % 41) l) (hm : mv_ok ky' vy' sy' (cur - old + 1) m) (p : l.Perm m) (so : mv_so l) (kr : mv_kr l) : i_Rel (k + 5) (nI old, nI (cur + 1), nI ((cur + 1) % 41), kx', vx', sx') (nI old, nI (cur + 1), ky', vy', sy') := by
  refine ⟨old, cur + 1, kx', vx', sx', ky', vy', sy', fun w => if w = cur + 1 then l else L w, fun w => if w = cur + 1 then m else M w, rfl, rfl, by omega, by omega, by omega, ?_⟩
  intro w w1 w2
  dsimp only
  by_cases e : w = cur + 1
  · rw [if_pos e, if_pos e]
    subst e
    refine ⟨hl, ?_, p, so, kr⟩
    rw [show cur + 1 - old = cur - old + 1 from by omega]
    exact hm
  · rw [if_neg e, if_neg e]
    obtain ⟨a1, a2, a3, a4, a5⟩ := h4 w w1 (by omega)
    exact ⟨mv_ok_fr a1 f1 f2 f3 (by omega), mv_ok_fr a2 g1 g2 g3 (by omega), a3, a4, a5⟩
theorem mv_X_hf {post : Int32 → Prop} {old cur : Nat} {cs : Int32} {K V S : Nat → Int32} (hc : cur < 2 ^ 30) (h0 : old ≤ cur) (h : cur - old < 40 → post 0) (h' : ¬ cur - old < 40 → post 1) : wpX_isHistoryFull post (nI old, nI cur, cs, K, V, S) := by
  unfold wpX_isHistoryFull
  dsimp only
  rw [pk_sub h0]
  exact pk_lt (cur - old) 40 h (fun z => h' (by omega))
theorem mv_pn {A B m : List mv_P} {q : mv_P} (p : (A ++ B).Perm m) : (A ++ q :: B).Perm (m ++ [q]) := List.perm_middle.trans ((p.cons q).trans (List.perm_append_singleton q m).symm)
theorem mv_pp {A B A' B' : List mv_P} {k w w' : Int32} (p : (A ++ (k, w) :: B).Perm (A' ++ (k, w') :: B')) (h : mv_kd (A ++ (k, w) :: B)) : (A ++ B).Perm (A' ++ B') := by
  have e1 := (mv_lk_mem h).mpr (List.mem_append_right A List.mem_cons_self)
  have e2 := (mv_lk_mem h).mpr (p.mem_iff.mpr (List.mem_append_right A' List.mem_cons_self))
  rw [e1] at e2
  have e3 := Option.some.inj e2
  subst e3
  exact List.Perm.cons_inv (List.perm_middle.symm.trans (p.trans List.perm_middle))
theorem mv_so_in {A B : List mv_P} {k v : Int32} (h : mv_so (A ++ B)) (hA : ∀ p, p ∈ A → p.1 < k) (hB : ∀ p, p ∈ B → k < p.1) : mv_so (A ++ (k, v) :: B) := by
  obtain ⟨h1, h2, h3⟩ := List.pairwise_append.mp h
  refine List.pairwise_append.mpr ⟨h1, List.pairwise_cons.mpr ⟨fun q hq => hB q hq, h2⟩, ?_⟩
  intro a ha b hb
  cases List.mem_cons.mp hb with
  | inl z => rw [z]; exact hA a ha
  | inr z => exact h3 a ha b z
theorem mv_so_re {A B : List mv_P} {k w : Int32} (v : Int32) (h : mv_so (A ++ (k, w) :: B)) : mv_so (A ++ (k, v) :: B) := by
  obtain ⟨h1, h2, h3⟩ := List.pairwise_append.mp h
  obtain ⟨h4, h5⟩ := List.pairwise_cons.mp h2
  refine List.pairwise_append.mpr ⟨h1, List.pairwise_cons.mpr ⟨fun q hq => h4 q hq, h5⟩, ?_⟩
  intro a ha b hb
  cases List.mem_cons.mp hb with
  | inl z => rw [z]; exact h3 a ha (k, w) List.mem_cons_self
  | inr z => exact h3 a ha b (List.mem_cons_of_mem _ z)
theorem mv_so_rm {A B : List mv_P} {q : mv_P} (h : mv_so (A ++ q :: B)) : mv_so (A ++ B) := by
  obtain ⟨h1, h2, h3⟩ := List.pairwise_append.mp h
  exact List.pairwise_append.mpr ⟨h1, (List.pairwise_cons.mp h2).2, fun a ha b hb => h3 a ha b (List.mem_cons_of_mem _ hb)⟩
theorem mv_kr_in {A B : List mv_P} {k v : Int32} (h : mv_kr (A ++ B)) (hk : k ≤ 1000) : mv_kr (A ++ (k, v) :: B) := by
  intro p hp
  cases List.mem_append.mp hp with
  | inl z => exact h p (List.mem_append_left _ z)
  | inr z =>
    cases List.mem_cons.mp z with
    | inl y => rw [y]; exact hk
    | inr y => exact h p (List.mem_append_right _ y)
theorem mv_kr_rm {A B : List mv_P} {q : mv_P} (h : mv_kr (A ++ q :: B)) : mv_kr (A ++ B) := by
  intro p hp
  cases List.mem_append.mp hp with
  | inl z => exact h p (List.mem_append_left _ z)
  | inr z => exact h p (List.mem_append_right _ (List.mem_cons_of_mem _ z))
theorem mv_no_pm {l m : List mv_P} {k : Int32} (p : l.Perm m) (h : ∀ q, q ∈ l → q.1 ≠ k) : ∀ q, q ∈ m → q.1 ≠ k := fun q hq => h q (p.mem_iff.mpr hq)
theorem mv_ye_pm {m A B : List mv_P} {k w : Int32} (p : (A ++ (k, w) :: B).Perm m) : ∃ A' w' B', m = A' ++ (k, w') :: B' ∧ ∀ q, q ∈ A' → q.1 ≠ k := by
  cases mv_cs k m with
  | inl n => exact absurd rfl (n (k, w) (p.mem_iff.mp (List.mem_append_right A List.mem_cons_self)))
  | inr y => exact y
theorem i_vc_forget {k : Nat} {u : SX} {v : SY} (I : i_Rel k u v) (hk : k + 5 ≤ 2560) (v1 : Int32) : wpX_forget (fun r u' => wpY_forget (fun r' v' => r' = r ∧ i_Rel (k + 5) u' v') v v1) u v1 := by
  have J := i_up I
  obtain ⟨old, cur, kx, vx, sx, ky, vy, sy, L, M, rfl, rfl, h1, h2, h3, h4⟩ := I
  cases mv_kc v1 (old := old) (cur := cur) (by omega) (by omega) with
  | inl n =>
    unfold wpX_forget wpY_forget
    exact mv_X_kf n (br_t rfl (mv_Y_kf n (br_t rfl ⟨rfl, J⟩)))
  | inr y =>
    obtain ⟨w, w1, w2, rfl⟩ := y
    unfold wpX_forget
    dsimp only
    refine mv_X_kt (by omega) w1 w2 (br_f (by decide) ?_)
    rw [pk_sub w2]
    refine mv_Y_fo (M := M) (by omega) w1 w2 h2 (fun y a b => (h4 y a b).2.1) ?_
    intro K V S h
    refine ⟨rfl, w, cur, kx, vx, sx, K, V, S, L, M, rfl, rfl, w2, by omega, by omega, ?_⟩
    intro y y1 y2
    obtain ⟨a1, a2, a3, a4, a5⟩ := h4 y (by omega) y2
    exact ⟨a1, h y y1 y2, a3, a4, a5⟩
theorem i_vc_erase {k : Nat} {u : SX} {v : SY} (I : i_Rel k u v) (hk : k + 5 ≤ 2560) (v1 : Int32) : wpX_erase (fun r u' => wpY_erase (fun r' v' => r' = r ∧ i_Rel (k + 5) u' v') v v1) u v1 := by
  have J := i_up I
  obtain ⟨old, cur, kx, vx, sx, ky, vy, sy, L, M, rfl, rfl, h1, h2, h3, h4⟩ := I
  obtain ⟨a1, a2, a3, a4, a5⟩ := h4 cur h1 (by omega)
  unfold wpX_erase
  dsimp only
  refine mv_X_key (fun b => br_t rfl ?_) (fun b => br_f (by decide) (mv_X_cf (by omega) a1 ?_))
  · unfold wpY_erase
    dsimp only
    exact mv_Y_bk (fun _ => br_f (by decide) ⟨rfl, J⟩) (fun z => absurd z b)
  · cases mv_cs v1 (L cur) with
    | inl n =>
      rw [mv_fd_no _ _ n]
      refine br_t rfl ?_
      unfold wpY_erase
      dsimp only
      refine mv_Y_bk (fun z => absurd b z) (fun _ => br_t rfl (nm_r (pk_sub h1) (mv_Y_ff (by omega) a2 ?_)))
      rw [mv_fd_no _ _ (mv_no_pm a3 n)]
      exact br_f (by decide) ⟨rfl, J⟩
    | inr y =>
      obtain ⟨A, w, B, e, hA⟩ := y
      rw [e] at a1 a3 a4 a5
      have hl := a1.2.1
      rw [List.length_append, List.length_cons] at hl
      obtain ⟨A', w', B', e', hA'⟩ := mv_ye_pm a3
      rw [e'] at a2 a3
      have hl' := a2.2.1
      rw [List.length_append, List.length_cons] at hl'
      rw [e, mv_fd_ye A _ hA]
      refine br_f (mv_n1 (by omega)) (mv_X_hf (by omega) h1 (fun c => br_t rfl ?_) (fun c => br_f (by decide) ?_))
      · refine mv_X_cp a1 ?_
        intro K V S f1 f2 f3 h5
        refine mv_X_rem (by omega) h5 hA ?_
        intro K' V' S' f4 f5 f6 h6
        refine mv_Y_er b h1 c a2 hA' ?_
        intro K2 V2 S2 m' g1 g2 g3 h7 p
        exact ⟨rfl, mv_new h1 c h3 h4 (mv_fr_tr f1 f4) (mv_fr_tr f2 f5) (fun j ne => (f6 j ne).trans (f3 j ne)) g1 g2 g3 h6 h7 ((mv_pp a3 (mv_so_kd a4)).trans p) (mv_so_rm a4) (mv_kr_rm a5)⟩
      · unfold wpY_erase
        dsimp only
        refine mv_Y_bk (fun z => absurd b z) (fun _ => br_t rfl (nm_r (pk_sub h1) (mv_Y_ff (by omega) a2 ?_)))
        rw [mv_fd_ye A' _ hA']
        exact br_t (nI_pos' (by omega)) (br_f (nI_nlt (b := 40) (by omega) (by omega)) ⟨rfl, J⟩)
theorem i_vc_put {k : Nat} {u : SX} {v : SY} (I : i_Rel k u v) (hk : k + 5 ≤ 2560) (v1 : Int32) (v2 : Int32) : wpX_put (fun r u' => wpY_put (fun r' v' => r' = r ∧ i_Rel (k + 5) u' v') v v1 v2) u v1 v2 := by
  have J := i_up I
  obtain ⟨old, cur, kx, vx, sx, ky, vy, sy, L, M, rfl, rfl, h1, h2, h3, h4⟩ := I
  obtain ⟨a1, a2, a3, a4, a5⟩ := h4 cur h1 (by omega)
  have len := a3.length_eq
  have ll := a1.2.1
  unfold wpX_put
  dsimp only
  refine mv_X_key (fun b => br_t rfl ?_) (fun b => br_f (by decide) (mv_X_hf (by omega) h1 (fun c => br_t rfl (mv_X_cf (by omega) a1 ?_)) (fun c => br_f (by decide) ?_)))
  · unfold wpY_put
    dsimp only
    exact mv_Y_bk (fun _ => br_f (by decide) ⟨rfl, J⟩) (fun z => absurd z b)
  · cases mv_cs v1 (L cur) with
    | inl n =>
      have n' := mv_no_pm a3 n
      rw [mv_fd_no _ _ n]
      refine br_t rfl ?_
      unfold wX_put_38
      rw [nI_clamp (n := cur % 41) (by omega), a1.1]
      refine br_f (by decide) ⟨vp_in_nI (by omega) (by omega), pk_lt (L cur).length 28 (fun d => ?_) (fun d => ?_)⟩
      · unfold wX_put_60
        refine mv_X_cp a1 ?_
        intro K V S f1 f2 f3 h5
        refine br_f (by decide) (mv_X_ins (by omega) h5 d a4 n ?_)
        intro K' V' S' A B e hA hB f4 f5 f6 h6
        unfold wpY_put
        dsimp only
        refine mv_Y_bk (fun z => absurd b z) (fun _ => br_t rfl (nm_r (pk_sub h1) (br_t (nI_lt (b := 40) (by omega) (by omega)) (mv_Y_ff (by omega) a2 ?_))))
        rw [mv_fd_no _ _ n', nI_clamp (n := cur - old) (by omega), a2.1]
        refine br_f (by decide) ⟨vp_in_nI (by omega) (by omega), pk_eq (M cur).length 28 (fun z => ?_) (fun _ => mv_Y_put c a2 (fun _ => by omega) ?_)⟩
        · omega
        · intro K2 V2 S2 m' g1 g2 g3 h7 q
          rw [e] at a3 a4 a5
          have pm : (A ++ (v1, v2) :: B).Perm m' := by
            cases q with
            | inl q => rw [q.2]; exact mv_pn a3
            | inr q =>
              obtain ⟨A', w, B', q1, q2⟩ := q
              exact absurd rfl (n' (v1, w) (by rw [q1]; exact List.mem_append_right _ List.mem_cons_self))
          exact ⟨rfl, mv_new h1 c h3 h4 (mv_fr_tr f1 f4) (mv_fr_tr f2 f5) (fun j ne => (f6 j ne).trans (f3 j ne)) g1 g2 g3 h6 h7 pm (mv_so_in a4 hA hB) (mv_kr_in a5 (Int32.not_lt.mp b.2))⟩
      · unfold wpY_put
        dsimp only
        refine mv_Y_bk (fun z => absurd b z) (fun _ => br_t rfl (nm_r (pk_sub h1) (br_t (nI_lt (b := 40) (by omega) (by omega)) (mv_Y_ff (by omega) a2 ?_))))
        rw [mv_fd_no _ _ n', nI_clamp (n := cur - old) (by omega), a2.1]
        exact br_f (by decide) ⟨vp_in_nI (by omega) (by omega), pk_eq (M cur).length 28 (fun _ => ⟨rfl, J⟩) (fun z => by omega)⟩
    | inr y =>
      obtain ⟨A, w, B, e, hA⟩ := y
      rw [e] at a1 a3 a4 a5
      have hl := a1.2.1
      rw [List.length_append, List.length_cons] at hl
      obtain ⟨A', w', B', e', hA'⟩ := mv_ye_pm a3
      rw [e'] at a2
      have hl' := a2.2.1
      rw [List.length_append, List.length_cons] at hl'
      rw [e, mv_fd_ye A _ hA]
      refine br_f (mv_n1 (by omega)) ?_
      unfold wX_put_38
      refine br_t rfl ?_
      unfold wX_put_60
      refine mv_X_cp a1 ?_
      intro K V S f1 f2 f3 h5
      refine br_t rfl (mv_X_rep (v := v2) (by omega) h5 hA ?_)
      intro V' f5 h6
      unfold wpY_put
      dsimp only
      refine mv_Y_bk (fun z => absurd b z) (fun _ => br_t rfl (nm_r (pk_sub h1) (br_t (nI_lt (b := 40) (by omega) (by omega)) (mv_Y_ff (by omega) a2 ?_))))
      rw [mv_fd_ye A' _ hA']
      refine br_t (nI_pos' (by omega)) (mv_Y_put c a2 (fun z => absurd rfl (z (v1, w') (List.mem_append_right _ List.mem_cons_self))) ?_)
      intro K2 V2 S2 m' g1 g2 g3 h7 q
      have pm : (A ++ (v1, v2) :: B).Perm m' := by
        cases q with
        | inl q => exact absurd rfl (q.1 (v1, w') (List.mem_append_right _ List.mem_cons_self))
        | inr q =>
          obtain ⟨A2, w2, B2, q1, q2⟩ := q
          rw [e', q1] at a3
          rw [q2]
          exact List.perm_middle.trans (((mv_pp a3 (mv_so_kd a4)).cons (v1, v2)).trans List.perm_middle.symm)
      exact ⟨rfl, mv_new h1 c h3 h4 f1 (mv_fr_tr f2 f5) f3 g1 g2 g3 h6 h7 pm (mv_so_re v2 a4) (mv_kr_in (mv_kr_rm a5) (Int32.not_lt.mp b.2))⟩
  · unfold wpY_put
    dsimp only
    exact mv_Y_bk (fun z => absurd b z) (fun _ => br_t rfl (nm_r (pk_sub h1) (br_f (nI_nlt (b := 40) (by omega) (by omega)) ⟨rfl, J⟩)))
end
