section
theorem pk_us {f : Nat → Int32} {k : Nat} {x : Int32} : upd f k x k = x := if_pos rfl
theorem pk_un {f : Nat → Int32} {k j : Nat} {x : Int32} (h : j ≠ k) : upd f k x j = f j := if_neg h
theorem pk_sub {a b : Nat} (h : b ≤ a) : nI a - nI b = nI (a - b) := by
  obtain ⟨c, rfl⟩ : ∃ c, a = c + b := ⟨a - b, by omega⟩
  rw [← nI_add, Int32.add_sub_cancel, Nat.add_sub_cancel]
theorem pk_m1 (n : Nat) : nI (n + 1) + (-1) = nI n := by
  rw [← nI_1, Int32.add_assoc, show (1 : Int32) + (-1) = 0 from rfl, Int32.add_zero]
theorem pk_mul (a b : Nat) : nI a * nI b = nI (a * b) := (Int32.ofNat_mul a b).symm
theorem pk_sub_toInt {a b : Nat} (ha : a < 2 ^ 30) (hb : b < 2 ^ 30) : (nI a - nI b).toInt = (a : Int) - b := by
  rw [Int32.toInt_sub, nI_toInt (by omega), nI_toInt (by omega)]
  exact Int.bmod_eq_of_le (by omega) (by omega)
theorem pk_sneg {a b : Nat} (hb : b < 2 ^ 30) (h : a < b) : nI a - nI b < 0 := by
  rw [Int32.lt_iff_toInt_lt, pk_sub_toInt (by omega) hb, show (0 : Int32).toInt = 0 from by decide]
  omega
theorem pk_le {x y : Int32} {A B : Prop} (a b : Nat) (f : a ≤ b → A) (g : b < a → B) (hx : x = nI a := by rfl) (hy : y = nI b := by rfl) (ha : a < 2 ^ 31 := by omega) (hb : b < 2 ^ 31 := by omega) : (x ≤ y → A) ∧ (¬ x ≤ y → B) := by
  subst hx hy
  rw [nI_leI ha hb]
  exact ⟨f, fun z => g (by omega)⟩
theorem pk_lt {x y : Int32} {A B : Prop} (a b : Nat) (f : a < b → A) (g : b ≤ a → B) (hx : x = nI a := by rfl) (hy : y = nI b := by rfl) (ha : a < 2 ^ 31 := by omega) (hb : b < 2 ^ 31 := by omega) : (x < y → A) ∧ (¬ x < y → B) := by
  subst hx hy
  rw [nI_ltI ha hb]
  exact ⟨f, fun z => g (by omega)⟩
theorem pk_eq {x y : Int32} {A B : Prop} (a b : Nat) (f : a = b → A) (g : a ≠ b → B) (hx : x = nI a := by rfl) (hy : y = nI b := by rfl) (ha : a < 2 ^ 31 := by omega) (hb : b < 2 ^ 31 := by omega) : (x = y → A) ∧ (¬ x = y → B) := by
  subst hx hy
  rw [nI_eq ha hb]
  exact ⟨f, g⟩
theorem pk_in {x : Int32} (n N : Nat) (h : n < N) (hx : x = nI n := by rfl) (hN : N < 2 ^ 31 := by omega) : vp_in x N := by
  subst hx
  exact vp_in_nI h hN
theorem pk_cl {x : Int32} (n : Nat) (hx : x = nI n := by rfl) (h : n < 2 ^ 31 := by omega) : x.toNatClampNeg = n := by
  subst hx
  exact nI_clamp h
/-! a version as a list of pairs: key, value -/
abbrev mv_P : Type := Int32 × Int32
/-- the cells from b on hold the pairs of the list -/
def mv_rn (K V : Nat → Int32) : Nat → List mv_P → Prop
  | _, [] => True
  | b, p :: t => K b = p.1 ∧ V b = p.2 ∧ mv_rn K V (b + 1) t
/-- slot s holds the list -/
def mv_ok (K V S : Nat → Int32) (s : Nat) (l : List mv_P) : Prop := S s = nI l.length ∧ l.length ≤ 28 ∧ mv_rn K V (s * 28) l
def mv_so (l : List mv_P) : Prop := l.Pairwise (fun p q => p.1 < q.1)
def mv_kd (l : List mv_P) : Prop := l.Pairwise (fun p q => p.1 ≠ q.1)
def mv_kr (l : List mv_P) : Prop := ∀ p, p ∈ l → p.1 ≤ 1000
def mv_sm (f : mv_P → Int32) : List mv_P → Int32
  | [] => 0
  | p :: t => f p + mv_sm f t
def mv_lk (k : Int32) : List mv_P → Option Int32
  | [] => none
  | p :: t => if p.1 = k then some p.2 else mv_lk k t
def mv_fd (k : Int32) : Nat → List mv_P → Int32
  | _, [] => -1
  | b, p :: t => if p.1 = k then nI b else mv_fd k (b + 1) t
def mv_hb (x : Option Int32) : Int32 := if x = none then 0 else 1
def mv_gv (x : Option Int32) : Int32 := x.getD 0
def mv_wi (lo hi k : Int32) : Prop := ¬ k < lo ∧ ¬ hi < k
/-- the arrays agree outside slot s -/
def mv_fr (s : Nat) (K K' : Nat → Int32) : Prop := ∀ j, (j < s * 28 ∨ s * 28 + 28 ≤ j) → K' j = K j
theorem mv_fr_rf (s : Nat) (K : Nat → Int32) : mv_fr s K K := fun _ _ => rfl
theorem mv_fr_tr {s : Nat} {K K1 K2 : Nat → Int32} (a : mv_fr s K K1) (b : mv_fr s K1 K2) : mv_fr s K K2 := fun j h => (b j h).trans (a j h)
theorem mv_fr_up {s c : Nat} {K K' : Nat → Int32} {x : Int32} (a : mv_fr s K K') (h : s * 28 ≤ c) (h' : c < s * 28 + 28) : mv_fr s K (upd K' c x) := by
  intro j hj
  rw [pk_un (by omega)]
  exact a j hj
theorem mv_m28 (s : Nat) : nI s * 28 = nI (s * 28) := pk_mul s 28
theorem mv_rn_sh {K V K' V' : Nat → Int32} : ∀ (l : List mv_P) (b b' : Nat), mv_rn K V b l → (∀ j, j < l.length → K' (b' + j) = K (b + j) ∧ V' (b' + j) = V (b + j)) → mv_rn K' V' b' l := by
  intro l
  induction l with
  | nil => intro b b' _ _; exact True.intro
  | cons p t ih =>
    intro b b' h e
    obtain ⟨h1, h2, h3⟩ := h
    have e0 := e 0 (by rw [List.length_cons]; omega)
    refine ⟨?_, ?_, ?_⟩
    · exact e0.1.trans h1
    · exact e0.2.trans h2
    · refine ih (b + 1) (b' + 1) h3 ?_
      intro j hj
      have e1 := e (j + 1) (by rw [List.length_cons]; omega)
      rw [show b' + 1 + j = b' + (j + 1) from by omega, show b + 1 + j = b + (j + 1) from by omega]
      exact e1
theorem mv_rn_cg {K V K' V' : Nat → Int32} {l : List mv_P} {b : Nat} (h : mv_rn K V b l) (e : ∀ j, b ≤ j → j < b + l.length → K' j = K j ∧ V' j = V j) : mv_rn K' V' b l :=
  mv_rn_sh l b b h (fun j hj => e (b + j) (by omega) (by omega))
theorem mv_rn_ap {K V : Nat → Int32} (B : List mv_P) : ∀ (A : List mv_P) (b : Nat), mv_rn K V b (A ++ B) ↔ mv_rn K V b A ∧ mv_rn K V (b + A.length) B := by
  intro A
  induction A with
  | nil => intro b; exact ⟨fun h => ⟨True.intro, h⟩, fun h => h.2⟩
  | cons p t ih =>
    intro b
    have i := ih (b + 1)
    rw [List.length_cons, show b + (t.length + 1) = b + 1 + t.length from by omega]
    constructor
    · intro h
      exact ⟨⟨h.1, h.2.1, (i.mp h.2.2).1⟩, (i.mp h.2.2).2⟩
    · intro h
      exact ⟨h.1.1, h.1.2.1, i.mpr ⟨h.1.2.2, h.2⟩⟩
theorem mv_ok_fr {K V S K' V' S' : Nat → Int32} {s t : Nat} {l : List mv_P} (h : mv_ok K V S s l) (hK : mv_fr t K K') (hV : mv_fr t V V') (hS : ∀ j, j ≠ t → S' j = S j) (ne : s ≠ t) : mv_ok K' V' S' s l := by
  obtain ⟨h1, h2, h3⟩ := h
  refine ⟨(hS s ne).trans h1, h2, mv_rn_cg h3 ?_⟩
  intro j a b
  have o : j < t * 28 ∨ t * 28 + 28 ≤ j := by omega
  exact ⟨hK j o, hV j o⟩
theorem mv_fd_no {k : Int32} : ∀ (l : List mv_P) (b : Nat), (∀ p, p ∈ l → p.1 ≠ k) → mv_fd k b l = -1 := by
  intro l
  induction l with
  | nil => intro b _; rfl
  | cons p t ih =>
    intro b h
    rw [mv_fd, if_neg (h p (List.mem_cons_self))]
    exact ih (b + 1) (fun q hq => h q (List.mem_cons_of_mem _ hq))
theorem mv_fd_ye {k v : Int32} {B : List mv_P} : ∀ (A : List mv_P) (b : Nat), (∀ p, p ∈ A → p.1 ≠ k) → mv_fd k b (A ++ (k, v) :: B) = nI (b + A.length) := by
  intro A
  induction A with
  | nil => intro b _; rw [List.nil_append, mv_fd, if_pos rfl]; rfl
  | cons p t ih =>
    intro b h
    rw [List.cons_append, mv_fd, if_neg (h p (List.mem_cons_self)), ih (b + 1) (fun q hq => h q (List.mem_cons_of_mem _ hq)), List.length_cons]
    exact congrArg nI (by omega)
theorem mv_lk_no {k : Int32} : ∀ (l : List mv_P), (∀ p, p ∈ l → p.1 ≠ k) → mv_lk k l = none := by
  intro l
  induction l with
  | nil => intro _; rfl
  | cons p t ih =>
    intro h
    rw [mv_lk, if_neg (h p (List.mem_cons_self))]
    exact ih (fun q hq => h q (List.mem_cons_of_mem _ hq))
theorem mv_lk_ye {k v : Int32} {B : List mv_P} : ∀ (A : List mv_P), (∀ p, p ∈ A → p.1 ≠ k) → mv_lk k (A ++ (k, v) :: B) = some v := by
  intro A
  induction A with
  | nil => intro _; rw [List.nil_append, mv_lk, if_pos rfl]
  | cons p t ih =>
    intro h
    rw [List.cons_append, mv_lk, if_neg (h p (List.mem_cons_self)), ih (fun q hq => h q (List.mem_cons_of_mem _ hq))]
theorem mv_cs (k : Int32) : ∀ (l : List mv_P), (∀ p, p ∈ l → p.1 ≠ k) ∨ ∃ A v B, l = A ++ (k, v) :: B ∧ ∀ p, p ∈ A → p.1 ≠ k := by
  intro l
  induction l with
  | nil => exact Or.inl (fun p hp => absurd hp (List.not_mem_nil))
  | cons p t ih =>
    by_cases e : p.1 = k
    · exact Or.inr ⟨[], p.2, t, by rw [← e]; rfl, fun q hq => absurd hq (List.not_mem_nil)⟩
    · cases ih with
      | inl h =>
        refine Or.inl (fun q hq => ?_)
        cases List.mem_cons.mp hq with
        | inl a => rw [a]; exact e
        | inr a => exact h q a
      | inr h =>
        obtain ⟨A, v, B, rfl, hA⟩ := h
        refine Or.inr ⟨p :: A, v, B, rfl, fun q hq => ?_⟩
        cases List.mem_cons.mp hq with
        | inl a => rw [a]; exact e
        | inr a => exact hA q a
theorem mv_fl (k : Int32) {K V : Nat → Int32} {l : List mv_P} {b : Nat} (h : mv_rn K V b l) : (mv_lk k l = none ∧ mv_fd k b l = -1) ∨ ∃ c, b ≤ c ∧ c < b + l.length ∧ mv_fd k b l = nI c ∧ mv_lk k l = some (V c) := by
  cases mv_cs k l with
  | inl n => exact Or.inl ⟨mv_lk_no l n, mv_fd_no l b n⟩
  | inr y =>
    obtain ⟨A, v, B, rfl, hA⟩ := y
    refine Or.inr ⟨b + A.length, by omega, ?_, mv_fd_ye A b hA, ?_⟩
    · rw [List.length_append, List.length_cons]; omega
    · rw [mv_lk_ye A hA]
      have h2 := ((mv_rn_ap _ A b).mp h).2
      exact congrArg some h2.2.1.symm
theorem mv_n1 {c : Nat} (h : c < 2 ^ 31) : ¬ nI c = -1 := by
  intro e
  have e2 : (nI c).toInt = (-1 : Int32).toInt := by rw [e]
  rw [nI_toInt h, show (-1 : Int32).toInt = -1 from by decide] at e2
  omega
theorem mv_sz {a b : Nat} (h : a = b) : nI a = nI b := by rw [h]
/-- a version asked for: not kept, or a natural number within -/
theorem mv_kc (x : Int32) {old cur : Nat} (ho : old < 2 ^ 31) (hc : cur < 2 ^ 31) : (x < nI old ∨ nI cur < x) ∨ ∃ w, old ≤ w ∧ w ≤ cur ∧ x = nI w := by
  by_cases h1 : x < nI old
  · exact Or.inl (Or.inl h1)
  · by_cases h2 : nI cur < x
    · exact Or.inl (Or.inr h2)
    · refine Or.inr ?_
      have h0 : ¬ x < 0 := by
        intro z
        exact h1 (Int32.lt_of_lt_of_le z (nI_pos' ho))
      obtain ⟨j, hj, rfl⟩ := nI_of h0
      rw [nI_ltI hj ho] at h1
      rw [nI_ltI hc hj] at h2
      exact ⟨j, by omega, by omega, rfl⟩
end
section
/-! X: what only reads -/
theorem mv_nb0 : narrow .boolean (.int 0) = .int 0 := by rfl
theorem mv_nb1 : narrow .boolean (.int 1) = .int 1 := by rfl
theorem mv_X_wi {post : Int32 → Prop} {u : SX} {k lo hi : Int32} (h0 : ¬ mv_wi lo hi k → post 0) (h1 : mv_wi lo hi k → post 1) : wpX_isWithin post u k lo hi := by
  unfold wpX_isWithin
  exact br_c (fun a => h0 (fun z => z.1 a)) (fun a => br_c (fun b => h0 (fun z => z.2 b)) (fun b => h1 ⟨a, b⟩))
theorem mv_X_key {post : Int32 → Prop} {u : SX} {k : Int32} (h0 : ¬ mv_wi (-1000) 1000 k → post 0) (h1 : mv_wi (-1000) 1000 k → post 1) : wpX_isKey post u k := by
  unfold wpX_isKey
  exact mv_X_wi (fun a => ⟨mv_nb0, h0 a⟩) (fun a => ⟨mv_nb1, h1 a⟩)
theorem mv_X_kf {post : Int32 → Prop} {o c cs : Int32} {K V S : Nat → Int32} {x : Int32} (h : x < o ∨ c < x) (hp : post 0) : wpX_isKept post (o, c, cs, K, V, S) x := by
  unfold wpX_isKept
  dsimp only
  refine mv_X_wi (fun a => ⟨mv_nb0, hp⟩) (fun a => ?_)
  cases h with
  | inl b => exact absurd b a.1
  | inr b => exact absurd b a.2
theorem mv_X_kt {post : Int32 → Prop} {old cur w : Nat} {cs : Int32} {K V S : Nat → Int32} (hc : cur < 2 ^ 31) (h1 : old ≤ w) (h2 : w ≤ cur) (hp : post 1) : wpX_isKept post (nI old, nI cur, cs, K, V, S) (nI w) := by
  unfold wpX_isKept
  dsimp only
  refine mv_X_wi (fun a => ?_) (fun a => ⟨mv_nb1, hp⟩)
  exact absurd ⟨nI_nlt h1 (by omega), nI_nlt h2 hc⟩ a
theorem mv_X_sl {post : Int32 → Prop} {o : Int32} {cur w : Nat} {K V S : Nat → Int32} (hc : cur < 2 ^ 30) (h1 : cur ≤ w + 40) (h2 : w ≤ cur) (hp : post (nI (w % 41))) : wpX_slotOf post (o, nI cur, nI (cur % 41), K, V, S) (nI w) := by
  unfold wpX_slotOf
  dsimp only
  rw [pk_sub h2]
  by_cases h : cur - w ≤ cur % 41
  · rw [pk_sub h, show cur % 41 - (cur - w) = w % 41 from by omega]
    exact nm_e (br_t (nI_pos' (by omega)) hp)
  · refine nm_e (br_f (Int32.not_le.mpr (pk_sneg (by omega) (by omega))) ?_)
    have e : nI (cur % 41) - nI (cur - w) + 41 = nI (w % 41) := by
      have e1 : nI (cur % 41) - nI (cur - w) + 41 = nI (cur % 41) + nI 41 - nI (cur - w) := by
        show nI (cur % 41) - nI (cur - w) + nI 41 = nI (cur % 41) + nI 41 - nI (cur - w)
        generalize nI (cur % 41) = a
        generalize nI (cur - w) = b
        generalize nI 41 = c
        grind
      rw [e1, nI_add, pk_sub (by omega)]
      exact congrArg nI (by omega)
    rw [e]
    exact hp
theorem mv_X_fc {post : Int32 → Prop} {u : SX} {s : Nat} (hp : post (nI (s * 28))) : wpX_firstCell post u (nI s) := by
  unfold wpX_firstCell
  dsimp only
  rw [mv_m28]
  exact hp
theorem mv_X_cl {post : Int32 → Prop} {k : Int32} {s n : Nat} {o c cs : Int32} {K V S : Nat → Int32} (hs : s < 41) (hS : S s = nI n) (hn : n ≤ 28) : ∀ (t : List mv_P) (i : Nat), i + t.length = n → mv_rn K V (s * 28 + i) t → post (mv_fd k (s * 28 + i) t) → wX_cellOf_9 post k (nI s) (nI (s * 28)) o c cs K V S (t.length + 1) (nI i) := by
  intro t
  induction t with
  | nil =>
    intro i h hr hp
    have h' : i = n := by simpa using h
    rw [wX_cellOf_9]
    dsimp only
    rw [nI_clamp (n := s) (by omega), hS]
    exact ⟨vp_in_nI hs (by omega), br_t (nI_le (by omega) (by omega)) hp⟩
  | cons p t ih =>
    intro i h hr hp
    rw [List.length_cons] at h
    obtain ⟨hK, hV, hr'⟩ := hr
    rw [List.length_cons, wX_cellOf_9]
    dsimp only
    rw [nI_clamp (n := s) (by omega), hS, nI_add, nI_clamp (n := s * 28 + i) (by omega), hK]
    refine ⟨vp_in_nI hs (by omega), br_f (nI_ge (by omega) (by omega)) ⟨vp_in_nI (by omega) (by omega), ?_⟩⟩
    rw [mv_fd] at hp
    by_cases e : p.1 = k
    · rw [if_pos e] at hp
      exact br_t e hp
    · rw [if_neg e] at hp
      exact br_f e (nm_r (nI_1 i) (ih (i + 1) (by omega) hr' hp))
theorem mv_X_cf {post : Int32 → Prop} {k : Int32} {s : Nat} {o c cs : Int32} {K V S : Nat → Int32} {l : List mv_P} (hs : s < 41) (h : mv_ok K V S s l) (hp : post (mv_fd k (s * 28) l)) : wpX_cellOf post (o, c, cs, K, V, S) k (nI s) := by
  unfold wpX_cellOf
  exact mv_X_fc ⟨_, mv_X_cl hs h.1 h.2.1 l 0 (by omega) h.2.2 hp⟩
theorem mv_X_cell {post : Int32 → Prop} {k : Int32} {s : Nat} {o c cs : Int32} {K V S : Nat → Int32} {l : List mv_P} (hs : s < 41) (h : mv_ok K V S s l) (h0 : mv_lk k l = none → post (-1)) (h1 : ∀ d, d < 1148 → mv_lk k l = some (V d) → post (nI d)) : wpX_cellOf post (o, c, cs, K, V, S) k (nI s) := by
  refine mv_X_cf hs h ?_
  cases mv_fl k h.2.2 with
  | inl a => rw [a.2]; exact h0 a.1
  | inr a =>
    obtain ⟨d, d1, d2, d3, d4⟩ := a
    have := h.2.1
    rw [d3]
    exact h1 d (by omega) d4
theorem mv_X_ho {post : Int32 → Prop} {k v : Int32} {s : Nat} {o c cs : Int32} {K V S : Nat → Int32} {l : List mv_P} (hs : s < 41) (h : mv_ok K V S s l) (h0 : ¬ mv_lk k l = some v → post 0) (h1 : mv_lk k l = some v → post 1) : wpX_holds post (o, c, cs, K, V, S) k v (nI s) := by
  unfold wpX_holds
  refine mv_X_cell hs h (fun a => br_t rfl (h0 (by rw [a]; intro z; cases z))) (fun d hd a => br_f (mv_n1 (by omega)) ⟨vp_in_nI hd (by omega), ?_⟩)
  rw [nI_clamp (by omega)]
  exact br_c (fun b => h1 (by rw [a, b])) (fun b => h0 (by rw [a]; intro z; exact b (Option.some.inj z)))
theorem mv_X_has {post : Int32 → Prop} {k : Int32} {old cur w : Nat} {K V S : Nat → Int32} {l : List mv_P} (hc : cur < 2 ^ 30) (h1 : old ≤ w) (h2 : w ≤ cur) (h3 : cur ≤ old + 40) (h : mv_ok K V S (w % 41) l) (hp : post (mv_hb (mv_lk k l))) : wpX_has post (nI old, nI cur, nI (cur % 41), K, V, S) k (nI w) := by
  unfold wpX_has
  refine mv_X_kt (by omega) h1 h2 (br_f (by decide) (mv_X_sl hc (by omega) h2 (mv_X_cell (by omega) h (fun a => br_t rfl ?_) (fun d hd a => br_f (mv_n1 (by omega)) ?_))))
  · rw [a] at hp; exact hp
  · rw [a] at hp; exact hp
theorem mv_X_get {post : Int32 → Prop} {k : Int32} {old cur w : Nat} {K V S : Nat → Int32} {l : List mv_P} (hc : cur < 2 ^ 30) (h1 : old ≤ w) (h2 : w ≤ cur) (h3 : cur ≤ old + 40) (h : mv_ok K V S (w % 41) l) (hp : post (mv_gv (mv_lk k l))) : wpX_get post (nI old, nI cur, nI (cur % 41), K, V, S) k (nI w) := by
  unfold wpX_get
  refine mv_X_kt (by omega) h1 h2 (br_f (by decide) (mv_X_sl hc (by omega) h2 (mv_X_cell (by omega) h (fun a => br_t rfl ?_) (fun d hd a => br_f (mv_n1 (by omega)) ⟨vp_in_nI hd (by omega), ?_⟩))))
  · rw [a] at hp; exact hp
  · rw [nI_clamp (by omega)]; rw [a] at hp; exact hp
noncomputable def mv_c1 (lo hi : Int32) (p : mv_P) : Int32 := by
  classical exact if mv_wi lo hi p.1 then 1 else 0
noncomputable def mv_s1 (lo hi : Int32) (p : mv_P) : Int32 := by
  classical exact if mv_wi lo hi p.1 then p.2 else 0
theorem mv_c1t {lo hi : Int32} {p : mv_P} (h : mv_wi lo hi p.1) : mv_c1 lo hi p = 1 := if_pos h
theorem mv_c1f {lo hi : Int32} {p : mv_P} (h : ¬ mv_wi lo hi p.1) : mv_c1 lo hi p = 0 := if_neg h
theorem mv_s1t {lo hi : Int32} {p : mv_P} (h : mv_wi lo hi p.1) : mv_s1 lo hi p = p.2 := if_pos h
theorem mv_s1f {lo hi : Int32} {p : mv_P} (h : ¬ mv_wi lo hi p.1) : mv_s1 lo hi p = 0 := if_neg h
theorem mv_ad (a b c : Int32) : a + (b + c) = a + b + c := (Int32.add_assoc a b c).symm
theorem mv_X_cntl {post : Int32 → Prop} {lo hi : Int32} {s n : Nat} {o c cs : Int32} {K V S : Nat → Int32} (hs : s < 41) (hS : S s = nI n) (hn : n ≤ 28) : ∀ (t : List mv_P) (i : Nat) (x : Int32), i + t.length = n → mv_rn K V (s * 28 + i) t → post (x + mv_sm (mv_c1 lo hi) t) → wX_count_32 post lo hi (nI s) (nI (s * 28)) o c cs K V S (t.length + 1) x (nI i) := by
  intro t
  induction t with
  | nil =>
    intro i x h hr hp
    have h' : i = n := by simpa using h
    rw [mv_sm, Int32.add_zero] at hp
    rw [wX_count_32]
    dsimp only
    rw [nI_clamp (n := s) (by omega), hS]
    exact ⟨vp_in_nI hs (by omega), br_t (nI_le (by omega) (by omega)) hp⟩
  | cons p t ih =>
    intro i x h hr hp
    rw [List.length_cons] at h
    obtain ⟨hK, hV, hr'⟩ := hr
    rw [mv_sm, mv_ad] at hp
    rw [List.length_cons, wX_count_32]
    dsimp only
    rw [nI_clamp (n := s) (by omega), hS, nI_add, nI_clamp (n := s * 28 + i) (by omega), hK]
    refine ⟨vp_in_nI hs (by omega), br_f (nI_ge (by omega) (by omega)) ⟨vp_in_nI (by omega) (by omega), ?_⟩⟩
    refine mv_X_wi (fun a => br_t rfl (nm_r (nI_1 i) ?_)) (fun a => br_f (by decide) (nm_e (nm_r (nI_1 i) ?_)))
    · rw [mv_c1f a, Int32.add_zero] at hp
      exact ih (i + 1) x (by omega) hr' hp
    · rw [mv_c1t a] at hp
      exact ih (i + 1) (x + 1) (by omega) hr' hp
theorem mv_X_cnt {post : Int32 → Prop} {lo hi : Int32} {old cur w : Nat} {K V S : Nat → Int32} {l : List mv_P} (hc : cur < 2 ^ 30) (h1 : old ≤ w) (h2 : w ≤ cur) (h3 : cur ≤ old + 40) (h : mv_ok K V S (w % 41) l) (hp : post (mv_sm (mv_c1 lo hi) l)) : wpX_count post (nI old, nI cur, nI (cur % 41), K, V, S) lo hi (nI w) := by
  unfold wpX_count
  refine mv_X_kt (by omega) h1 h2 (br_f (by decide) (mv_X_sl hc (by omega) h2 (mv_X_fc ⟨_, mv_X_cntl (by omega) h.1 h.2.1 l 0 0 (by omega) h.2.2 ?_⟩)))
  rw [Int32.zero_add]
  exact hp
theorem mv_X_suml {post : Int32 → Prop} {lo hi : Int32} {s n : Nat} {o c cs : Int32} {K V S : Nat → Int32} (hs : s < 41) (hS : S s = nI n) (hn : n ≤ 28) : ∀ (t : List mv_P) (i : Nat) (x : Int32), i + t.length = n → mv_rn K V (s * 28 + i) t → post (x + mv_sm (mv_s1 lo hi) t) → wX_sum_31 post lo hi (nI s) (nI (s * 28)) o c cs K V S (t.length + 1) x (nI i) := by
  intro t
  induction t with
  | nil =>
    intro i x h hr hp
    have h' : i = n := by simpa using h
    rw [mv_sm, Int32.add_zero] at hp
    rw [wX_sum_31]
    dsimp only
    rw [nI_clamp (n := s) (by omega), hS]
    exact ⟨vp_in_nI hs (by omega), br_t (nI_le (by omega) (by omega)) hp⟩
  | cons p t ih =>
    intro i x h hr hp
    rw [List.length_cons] at h
    obtain ⟨hK, hV, hr'⟩ := hr
    rw [mv_sm, mv_ad] at hp
    rw [List.length_cons, wX_sum_31]
    dsimp only
    rw [nI_clamp (n := s) (by omega), hS, nI_add, nI_clamp (n := s * 28 + i) (by omega), hK, hV]
    refine ⟨vp_in_nI hs (by omega), br_f (nI_ge (by omega) (by omega)) ⟨vp_in_nI (by omega) (by omega), ?_⟩⟩
    refine mv_X_wi (fun a => br_t rfl (nm_r (nI_1 i) ?_)) (fun a => br_f (by decide) ⟨vp_in_nI (by omega) (by omega), nm_e (nm_r (nI_1 i) ?_)⟩)
    · rw [mv_s1f a, Int32.add_zero] at hp
      exact ih (i + 1) x (by omega) hr' hp
    · rw [mv_s1t a] at hp
      exact ih (i + 1) (x + p.2) (by omega) hr' hp
theorem mv_X_sum {post : Int32 → Prop} {lo hi : Int32} {old cur w : Nat} {K V S : Nat → Int32} {l : List mv_P} (hc : cur < 2 ^ 30) (h1 : old ≤ w) (h2 : w ≤ cur) (h3 : cur ≤ old + 40) (h : mv_ok K V S (w % 41) l) (hp : post (mv_sm (mv_s1 lo hi) l)) : wpX_sum post (nI old, nI cur, nI (cur % 41), K, V, S) lo hi (nI w) := by
  unfold wpX_sum
  refine mv_X_kt (by omega) h1 h2 (br_f (by decide) (mv_X_sl hc (by omega) h2 (mv_X_fc ⟨_, mv_X_suml (by omega) h.1 h.2.1 l 0 0 (by omega) h.2.2 ?_⟩)))
  rw [Int32.zero_add]
  exact hp
/-- the first key above k -/
def mv_nx (k : Int32) : List mv_P → Int32
  | [] => 100000
  | p :: t => if p.1 ≤ k then mv_nx k t else p.1
theorem mv_X_nxl {post : Int32 → Prop} {k : Int32} {s n : Nat} {o c cs : Int32} {K V S : Nat → Int32} (hs : s < 41) (hS : S s = nI n) (hn : n ≤ 28) : ∀ (t : List mv_P) (i : Nat), i + t.length = n → mv_rn K V (s * 28 + i) t → post (mv_nx k t) → wX_next_27 post k (nI s) (nI (s * 28)) o c cs K V S (t.length + 1) (nI i) := by
  intro t
  induction t with
  | nil =>
    intro i h hr hp
    have h' : i = n := by simpa using h
    rw [wX_next_27]
    dsimp only
    rw [nI_clamp (n := s) (by omega), hS]
    exact ⟨vp_in_nI hs (by omega), br_t (nI_le (by omega) (by omega)) hp⟩
  | cons p t ih =>
    intro i h hr hp
    rw [List.length_cons] at h
    obtain ⟨hK, hV, hr'⟩ := hr
    rw [List.length_cons, wX_next_27]
    dsimp only
    rw [nI_clamp (n := s) (by omega), hS, nI_add, nI_clamp (n := s * 28 + i) (by omega), hK]
    refine ⟨vp_in_nI hs (by omega), br_f (nI_ge (by omega) (by omega)) ⟨vp_in_nI (by omega) (by omega), ?_⟩⟩
    rw [mv_nx] at hp
    by_cases e : p.1 ≤ k
    · rw [if_pos e] at hp
      exact br_t e (nm_r (nI_1 i) (ih (i + 1) (by omega) hr' hp))
    · rw [if_neg e] at hp
      exact br_f e ⟨vp_in_nI (by omega) (by omega), hp⟩
theorem mv_X_next {post : Int32 → Prop} {k : Int32} {old cur w : Nat} {K V S : Nat → Int32} {l : List mv_P} (hc : cur < 2 ^ 30) (h1 : old ≤ w) (h2 : w ≤ cur) (h3 : cur ≤ old + 40) (h : mv_ok K V S (w % 41) l) (hp : post (mv_nx k l)) : wpX_next post (nI old, nI cur, nI (cur % 41), K, V, S) k (nI w) := by
  unfold wpX_next
  exact mv_X_kt (by omega) h1 h2 (br_f (by decide) (mv_X_sl hc (by omega) h2 (mv_X_fc ⟨_, mv_X_nxl (by omega) h.1 h.2.1 l 0 (by omega) h.2.2 hp⟩)))
theorem mv_X_kat {post : Int32 → Prop} {x : Int32} {old cur w : Nat} {K V S : Nat → Int32} {l : List mv_P} (hc : cur < 2 ^ 30) (h1 : old ≤ w) (h2 : w ≤ cur) (h3 : cur ≤ old + 40) (h : mv_ok K V S (w % 41) l) (h0 : (∀ A p B, l = A ++ p :: B → x ≠ nI A.length) → post 100000) (hp : ∀ A p B, l = A ++ p :: B → x = nI A.length → post p.1) : wpX_keyAt post (nI old, nI cur, nI (cur % 41), K, V, S) x (nI w) := by
  unfold wpX_keyAt
  refine mv_X_kt (by omega) h1 h2 (br_f (by decide) (mv_X_sl hc (by omega) h2 ?_))
  obtain ⟨e1, e2, e3⟩ := h
  refine br_c (fun a => h0 ?_) (fun a => ⟨vp_in_nI (by omega) (by omega), ?_⟩)
  · intro A p B e z
    rw [z] at a
    rw [e, List.length_append, List.length_cons] at e2
    exact nI_pos (by omega) a
  · obtain ⟨i, hi, rfl⟩ := nI_of a
    rw [nI_clamp (by omega), e1]
    refine br_c (fun b => mv_X_fc ?_) (fun b => h0 ?_)
    · rw [nI_ltI hi (by omega)] at b
      rw [nI_add]
      refine ⟨vp_in_nI (by omega) (by omega), ?_⟩
      rw [nI_clamp (by omega)]
      have e := List.take_append_drop i l
      cases hd : l.drop i with
      | nil =>
        have e4 := List.length_drop (i := i) (l := l)
        rw [hd, List.length_nil] at e4
        omega
      | cons p B =>
        rw [hd] at e
        have e5 : (l.take i).length = i := by rw [List.length_take]; omega
        have r := ((mv_rn_ap _ (l.take i) _).mp (e.symm ▸ e3)).2
        rw [e5] at r
        rw [r.1]
        exact hp _ p B e.symm (by rw [e5])
    · intro A p B e z
      rw [z] at b
      rw [e, List.length_append, List.length_cons] at e2 b
      exact b (nI_lt (by omega) (by omega))
end
section
/-! X: differ, since -/
noncomputable def mv_d1 (lo hi : Int32) (m : List mv_P) (p : mv_P) : Int32 := by
  classical exact if mv_wi lo hi p.1 then (if mv_lk p.1 m = some p.2 then 0 else 1) else 0
noncomputable def mv_d2 (lo hi : Int32) (m : List mv_P) (p : mv_P) : Int32 := by
  classical exact if mv_wi lo hi p.1 then (if mv_lk p.1 m = none then 1 else 0) else 0
theorem mv_d1f {lo hi : Int32} {m : List mv_P} {p : mv_P} (h : ¬ mv_wi lo hi p.1) : mv_d1 lo hi m p = 0 := if_neg h
theorem mv_d1a {lo hi : Int32} {m : List mv_P} {p : mv_P} (h : mv_wi lo hi p.1) (e : mv_lk p.1 m = some p.2) : mv_d1 lo hi m p = 0 := (if_pos h).trans (if_pos e)
theorem mv_d1b {lo hi : Int32} {m : List mv_P} {p : mv_P} (h : mv_wi lo hi p.1) (e : ¬ mv_lk p.1 m = some p.2) : mv_d1 lo hi m p = 1 := (if_pos h).trans (if_neg e)
theorem mv_d2f {lo hi : Int32} {m : List mv_P} {p : mv_P} (h : ¬ mv_wi lo hi p.1) : mv_d2 lo hi m p = 0 := if_neg h
theorem mv_d2a {lo hi : Int32} {m : List mv_P} {p : mv_P} (h : mv_wi lo hi p.1) (e : mv_lk p.1 m = none) : mv_d2 lo hi m p = 1 := (if_pos h).trans (if_pos e)
theorem mv_d2b {lo hi : Int32} {m : List mv_P} {p : mv_P} (h : mv_wi lo hi p.1) (e : ¬ mv_lk p.1 m = none) : mv_d2 lo hi m p = 0 := (if_pos h).trans (if_neg e)
theorem mv_X_chl {post : Int32 → Prop} {lo hi : Int32} {s z n : Nat} {o c cs : Int32} {K V S : Nat → Int32} {m : List mv_P} (hs : s < 41) (hz : z < 41) (hm : mv_ok K V S z m) (hS : S s = nI n) (hn : n ≤ 28) : ∀ (t : List mv_P) (i : Nat) (x : Int32), i + t.length = n → mv_rn K V (s * 28 + i) t → post (x + mv_sm (mv_d1 lo hi m) t) → wX_countChanged_13 post lo hi (nI s) (nI z) (nI (s * 28)) o c cs K V S (t.length + 1) x (nI i) := by
  intro t
  induction t with
  | nil =>
    intro i x h hr hp
    have h' : i = n := by simpa using h
    rw [mv_sm, Int32.add_zero] at hp
    rw [wX_countChanged_13]
    dsimp only
    rw [nI_clamp (n := s) (by omega), hS]
    exact ⟨vp_in_nI hs (by omega), br_t (nI_le (by omega) (by omega)) hp⟩
  | cons p t ih =>
    intro i x h hr hp
    rw [List.length_cons] at h
    obtain ⟨hK, hV, hr'⟩ := hr
    rw [mv_sm, mv_ad] at hp
    rw [List.length_cons, wX_countChanged_13]
    dsimp only
    rw [nI_clamp (n := s) (by omega), hS, nI_add, nI_clamp (n := s * 28 + i) (by omega), hK, hV]
    refine ⟨vp_in_nI hs (by omega), br_f (nI_ge (by omega) (by omega)) ⟨vp_in_nI (by omega) (by omega), nm_e ?_⟩⟩
    refine mv_X_wi (fun a => br_t rfl (nm_r (nI_1 i) ?_)) (fun a => br_f (by decide) ⟨vp_in_nI (by omega) (by omega), mv_X_ho hz hm (fun b => br_t rfl (nm_e (nm_r (nI_1 i) ?_))) (fun b => br_f (by decide) (nm_r (nI_1 i) ?_))⟩)
    · rw [mv_d1f a, Int32.add_zero] at hp
      exact ih (i + 1) x (by omega) hr' hp
    · rw [mv_d1b a b] at hp
      exact ih (i + 1) (x + 1) (by omega) hr' hp
    · rw [mv_d1a a b, Int32.add_zero] at hp
      exact ih (i + 1) x (by omega) hr' hp
theorem mv_X_lal {post : Int32 → Prop} {lo hi : Int32} {s z n : Nat} {o c cs : Int32} {K V S : Nat → Int32} {m : List mv_P} (hs : s < 41) (hz : z < 41) (hm : mv_ok K V S z m) (hS : S s = nI n) (hn : n ≤ 28) : ∀ (t : List mv_P) (i : Nat) (x : Int32), i + t.length = n → mv_rn K V (s * 28 + i) t → post (x + mv_sm (mv_d2 lo hi m) t) → wX_countLacking_13 post lo hi (nI s) (nI z) (nI (s * 28)) o c cs K V S (t.length + 1) x (nI i) := by
  intro t
  induction t with
  | nil =>
    intro i x h hr hp
    have h' : i = n := by simpa using h
    rw [mv_sm, Int32.add_zero] at hp
    rw [wX_countLacking_13]
    dsimp only
    rw [nI_clamp (n := s) (by omega), hS]
    exact ⟨vp_in_nI hs (by omega), br_t (nI_le (by omega) (by omega)) hp⟩
  | cons p t ih =>
    intro i x h hr hp
    rw [List.length_cons] at h
    obtain ⟨hK, hV, hr'⟩ := hr
    rw [mv_sm, mv_ad] at hp
    rw [List.length_cons, wX_countLacking_13]
    dsimp only
    rw [nI_clamp (n := s) (by omega), hS, nI_add, nI_clamp (n := s * 28 + i) (by omega), hK]
    refine ⟨vp_in_nI hs (by omega), br_f (nI_ge (by omega) (by omega)) ⟨vp_in_nI (by omega) (by omega), nm_e ?_⟩⟩
    refine mv_X_wi (fun a => br_t rfl (nm_r (nI_1 i) ?_)) (fun a => br_f (by decide) (mv_X_cell hz hm (fun b => br_t rfl (nm_e (nm_r (nI_1 i) ?_))) (fun d hd b => br_f (mv_n1 (by omega)) (nm_r (nI_1 i) ?_))))
    · rw [mv_d2f a, Int32.add_zero] at hp
      exact ih (i + 1) x (by omega) hr' hp
    · rw [mv_d2a a b] at hp
      exact ih (i + 1) (x + 1) (by omega) hr' hp
    · rw [mv_d2b a (by rw [b]; intro z; cases z), Int32.add_zero] at hp
      exact ih (i + 1) x (by omega) hr' hp
theorem mv_X_ch {post : Int32 → Prop} {lo hi : Int32} {s z : Nat} {o c cs : Int32} {K V S : Nat → Int32} {l m : List mv_P} (hs : s < 41) (hz : z < 41) (hl : mv_ok K V S s l) (hm : mv_ok K V S z m) (hp : post (mv_sm (mv_d1 lo hi m) l)) : wpX_countChanged post (o, c, cs, K, V, S) lo hi (nI s) (nI z) := by
  unfold wpX_countChanged
  refine mv_X_fc ⟨_, mv_X_chl hs hz hm hl.1 hl.2.1 l 0 0 (by omega) hl.2.2 ?_⟩
  rw [Int32.zero_add]
  exact hp
theorem mv_X_la {post : Int32 → Prop} {lo hi : Int32} {s z : Nat} {o c cs : Int32} {K V S : Nat → Int32} {l m : List mv_P} (hs : s < 41) (hz : z < 41) (hl : mv_ok K V S s l) (hm : mv_ok K V S z m) (hp : post (mv_sm (mv_d2 lo hi m) l)) : wpX_countLacking post (o, c, cs, K, V, S) lo hi (nI s) (nI z) := by
  unfold wpX_countLacking
  refine mv_X_fc ⟨_, mv_X_lal hs hz hm hl.1 hl.2.1 l 0 0 (by omega) hl.2.2 ?_⟩
  rw [Int32.zero_add]
  exact hp
theorem mv_X_di {post : Int32 → Prop} {lo hi : Int32} {old cur w y : Nat} {K V S : Nat → Int32} {l m : List mv_P} (hc : cur < 2 ^ 30) (h1 : old ≤ w) (h2 : w ≤ cur) (g1 : old ≤ y) (g2 : y ≤ cur) (h3 : cur ≤ old + 40) (hl : mv_ok K V S (w % 41) l) (hm : mv_ok K V S (y % 41) m) (hp : post (mv_sm (mv_d1 lo hi m) l + mv_sm (mv_d2 lo hi l) m)) : wpX_differ post (nI old, nI cur, nI (cur % 41), K, V, S) lo hi (nI w) (nI y) := by
  unfold wpX_differ
  exact mv_X_kt (by omega) h1 h2 (br_f (by decide) (mv_X_kt (by omega) g1 g2 (br_f (by decide) (mv_X_sl hc (by omega) h2 (mv_X_sl hc (by omega) g2 (mv_X_ch (by omega) (by omega) hl hm (mv_X_la (by omega) (by omega) hm hl hp)))))))
/-- since: a is how far back the value has stood -/
theorem mv_X_sil {post : Int32 → Prop} {k v : Int32} {old cur a : Nat} {K V S : Nat → Int32} {L : Nat → List mv_P} (hc : cur < 2 ^ 30) (h0 : old ≤ cur) (h3 : cur ≤ old + 40) (hL : ∀ w, old ≤ w → w ≤ cur → mv_ok K V S (w % 41) (L w)) (ha : a ≤ cur - old) (hy : ∀ j, j < a → mv_lk k (L (cur - (j + 1))) = some v) (hn : a = cur - old ∨ ¬ mv_lk k (L (cur - (a + 1))) = some v) (hp : post (nI (cur - a))) : ∀ (d j : Nat), j + d = a → wX_since_31 post k v (nI old) (nI cur) (nI (cur % 41)) K V S (d + 1) (nI j) (nI (j + 1)) := by
  intro d
  induction d with
  | zero =>
    intro j hj
    have e : j = a := by omega
    subst e
    rw [wX_since_31]
    dsimp only
    rw [pk_sub h0, pk_sub (show j ≤ cur from by omega)]
    by_cases q : j = cur - old
    · exact br_t (nI_lt (by omega) (by omega)) hp
    · have q2 : ¬ mv_lk k (L (cur - (j + 1))) = some v := by
        cases hn with
        | inl z => exact absurd z q
        | inr z => exact z
      rw [pk_sub (show j + 1 ≤ cur from by omega)]
      exact br_f (nI_nlt (by omega) (by omega)) (mv_X_sl hc (by omega) (by omega) (mv_X_ho (by omega) (hL _ (by omega) (by omega)) (fun _ => br_t rfl hp) (fun z => absurd z q2)))
  | succ d ih =>
    intro j hj
    have q2 := hy j (by omega)
    rw [wX_since_31]
    dsimp only
    rw [pk_sub h0, pk_sub (show j + 1 ≤ cur from by omega)]
    exact br_f (nI_nlt (by omega) (by omega)) (mv_X_sl hc (by omega) (by omega) (mv_X_ho (by omega) (hL _ (by omega) (by omega)) (fun z => absurd q2 z) (fun _ => br_f (by decide) (nm_r (nI_1 (j + 1)) (ih (j + 1) (by omega))))))
theorem mv_X_si0 {post : Int32 → Prop} {k : Int32} {old cur : Nat} {K V S : Nat → Int32} {l : List mv_P} (h : mv_ok K V S (cur % 41) l) (e : mv_lk k l = none) (hp : post (-2)) : wpX_since post (nI old, nI cur, nI (cur % 41), K, V, S) k := by
  unfold wpX_since
  refine mv_X_cell (by omega) h (fun _ => br_t rfl hp) (fun d _ b => ?_)
  rw [e] at b
  cases b
theorem mv_X_si1 {post : Int32 → Prop} {k v : Int32} {old cur a : Nat} {K V S : Nat → Int32} {L : Nat → List mv_P} (hc : cur < 2 ^ 30) (h0 : old ≤ cur) (h3 : cur ≤ old + 40) (hL : ∀ w, old ≤ w → w ≤ cur → mv_ok K V S (w % 41) (L w)) (e : mv_lk k (L cur) = some v) (ha : a ≤ cur - old) (hy : ∀ j, j < a → mv_lk k (L (cur - (j + 1))) = some v) (hn : a = cur - old ∨ ¬ mv_lk k (L (cur - (a + 1))) = some v) (hp : post (nI (cur - a))) : wpX_since post (nI old, nI cur, nI (cur % 41), K, V, S) k := by
  unfold wpX_since
  refine mv_X_cell (by omega) (hL cur h0 (by omega)) (fun z => ?_) (fun d hd b => br_f (mv_n1 (by omega)) ⟨vp_in_nI hd (by omega), ?_⟩)
  · rw [e] at z
    cases z
  · rw [nI_clamp (by omega)]
    rw [e] at b
    exact nm_r (Option.some.inj b).symm ⟨_, mv_X_sil hc h0 h3 hL ha hy hn hp a 0 (by omega)⟩
end
