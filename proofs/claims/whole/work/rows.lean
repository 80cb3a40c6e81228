section
theorem pk_us {f : Nat → Int32} {k : Nat} {x : Int32} : upd f k x k = x := if_pos rfl
theorem pk_un {f : Nat → Int32} {k j : Nat} {x : Int32} (h : j ≠ k) : upd f k x j = f j := if_neg h
theorem pk_sub {a b : Nat} (h : b ≤ a) : nI a - nI b = nI (a - b) := by
  obtain ⟨c, rfl⟩ : ∃ c, a = c + b := ⟨a - b, by omega⟩
  rw [← nI_add, Int32.add_sub_cancel, Nat.add_sub_cancel]
theorem pk_m1 (n : Nat) : nI (n + 1) + (-1) = nI n := by
  rw [← nI_1, Int32.add_assoc, show (1 : Int32) + (-1) = 0 from rfl, Int32.add_zero]
theorem pk_mul (a b : Nat) : nI a * nI b = nI (a * b) := (Int32.ofNat_mul a b).symm
theorem pk_sub_toInt {a b : Nat} (ha : a < 2 ^ 30) (hb : b < 2 ^ 30) : (nI a - nI b).toInt = (a : Int) - b := by
  rw [Int32.toInt_sub, nI_toInt (by omega), nI_toInt (by omega)]
  exact Int.bmod_eq_of_le (by omega) (by omega)
theorem pk_sneg {a b : Nat} (hb : b < 2 ^ 30) (h : a < b) : nI a - nI b < 0 := by
  rw [Int32.lt_iff_toInt_lt, pk_sub_toInt (by omega) hb, show (0 : Int32).toInt = 0 from by decide]
  omega
theorem pk_le {x y : Int32} {A B : Prop} (a b : Nat) (f : a ≤ b → A) (g : b < a → B) (hx : x = nI a := by rfl) (hy : y = nI b := by rfl) (ha : a < 2 ^ 31 := by omega) (hb : b < 2 ^ 31 := by omega) : (x ≤ y → A) ∧ (¬ x ≤ y → B) := by
  subst hx hy
  rw [nI_leI ha hb]
  exact ⟨f, fun z => g (by omega)⟩
theorem pk_lt {x y : Int32} {A B : Prop} (a b : Nat) (f : a < b → A) (g : b ≤ a → B) (hx : x = nI a := by rfl) (hy : y = nI b := by rfl) (ha : a < 2 ^ 31 := by omega) (hb : b < 2 ^ 31 := by omega) : (x < y → A) ∧ (¬ x < y → B) := by
  subst hx hy
  rw [nI_ltI ha hb]
  exact ⟨f, fun z => g (by omega)⟩
theorem pk_eq {x y : Int32} {A B : Prop} (a b : Nat) (f : a = b → A) (g : a ≠ b → B) (hx : x = nI a := by rfl) (hy : y = nI b := by rfl) (ha : a < 2 ^ 31 := by omega) (hb : b < 2 ^ 31 := by omega) : (x = y → A) ∧ (¬ x = y → B) := by
  subst hx hy
  rw [nI_eq ha hb]
  exact ⟨f, g⟩
theorem pk_in {x : Int32} (n N : Nat) (h : n < N) (hx : x = nI n := by rfl) (hN : N < 2 ^ 31 := by omega) : vp_in x N := by
  subst hx
  exact vp_in_nI h hN
theorem pk_cl {x : Int32} (n : Nat) (hx : x = nI n := by rfl) (h : n < 2 ^ 31 := by omega) : x.toNatClampNeg = n := by
  subst hx
  exact nI_clamp h
/-! a version as a list of pairs: key, value -/
abbrev mv_P : Type := Int32 × Int32
/-- the cells from b on hold the pairs of the list -/
def mv_rn (K V : Nat → Int32) : Nat → List mv_P → Prop
  | _, [] => True
  | b, p :: t => K b = p.1 ∧ V b = p.2 ∧ mv_rn K V (b + 1) t
/-- slot s holds the list -/
def mv_ok (K V S : Nat → Int32) (s : Nat) (l : List mv_P) : Prop := S s = nI l.length ∧ l.length ≤ 28 ∧ mv_rn K V (s * 28) l
def mv_so (l : List mv_P) : Prop := l.Pairwise (fun p q => p.1 < q.1)
def mv_kd (l : List mv_P) : Prop := l.Pairwise (fun p q => p.1 ≠ q.1)
def mv_kr (l : List mv_P) : Prop := ∀ p, p ∈ l → p.1 ≤ 1000
def mv_sm (f : mv_P → Int32) : List mv_P → Int32
  | [] => 0
  | p :: t => f p + mv_sm f t
def mv_lk (k : Int32) : List mv_P → Option Int32
  | [] => none
  | p :: t => if p.1 = k then some p.2 else mv_lk k t
def mv_fd (k : Int32) : Nat → List mv_P → Int32
  | _, [] => -1
  | b, p :: t => if p.1 = k then nI b else mv_fd k (b + 1) t
def mv_hb (x : Option Int32) : Int32 := if x = none then 0 else 1
def mv_gv (x : Option Int32) : Int32 := x.getD 0
def mv_wi (lo hi k : Int32) : Prop := ¬ k < lo ∧ ¬ hi < k
/-- the arrays agree outside slot s -/
def mv_fr (s : Nat) (K K' : Nat → Int32) : Prop := ∀ j, (j < s * 28 ∨ s * 28 + 28 ≤ j) → K' j = K j
theorem mv_fr_rf (s : Nat) (K : Nat → Int32) : mv_fr s K K := fun _ _ => rfl
theorem mv_fr_tr {s : Nat} {K K1 K2 : Nat → Int32} (a : mv_fr s K K1) (b : mv_fr s K1 K2) : mv_fr s K K2 := fun j h => (b j h).trans (a j h)
theorem mv_fr_up {s c : Nat} {K K' : Nat → Int32} {x : Int32} (a : mv_fr s K K') (h : s * 28 ≤ c) (h' : c < s * 28 + 28) : mv_fr s K (upd K' c x) := by
  intro j hj
  rw [pk_un (by omega)]
  exact a j hj
theorem mv_m28 (s : Nat) : nI s * 28 = nI (s * 28) := pk_mul s 28
theorem mv_rn_sh {K V K' V' : Nat → Int32} : ∀ (l : List mv_P) (b b' : Nat), mv_rn K V b l → (∀ j, j < l.length → K' (b' + j) = K (b + j) ∧ V' (b' + j) = V (b + j)) → mv_rn K' V' b' l := by
  intro l
  induction l with
  | nil => intro b b' _ _; exact True.intro
  | cons p t ih =>
    intro b b' h e
    obtain ⟨h1, h2, h3⟩ := h
    have e0 := e 0 (by rw [List.length_cons]; omega)
    refine ⟨?_, ?_, ?_⟩
    · exact e0.1.trans h1
    · exact e0.2.trans h2
    · refine ih (b + 1) (b' + 1) h3 ?_
      intro j hj
      have e1 := e (j + 1) (by rw [List.length_cons]; omega)
      rw [show b' + 1 + j = b' + (j + 1) from by omega, show b + 1 + j = b + (j + 1) from by omega]
      exact e1
theorem mv_rn_cg {K V K' V' : Nat → Int32} {l : List mv_P} {b : Nat} (h : mv_rn K V b l) (e : ∀ j, b ≤ j → j < b + l.length → K' j = K j ∧ V' j = V j) : mv_rn K' V' b l :=
  mv_rn_sh l b b h (fun j hj => e (b + j) (by omega) (by omega))
theorem mv_rn_ap {K V : Nat → Int32} (B : List mv_P) : ∀ (A : List mv_P) (b : Nat), mv_rn K V b (A ++ B) ↔ mv_rn K V b A ∧ mv_rn K V (b + A.length) B := by
  intro A
  induction A with
  | nil => intro b; exact ⟨fun h => ⟨True.intro, h⟩, fun h => h.2⟩
  | cons p t ih =>
    intro b
    have i := ih (b + 1)
    rw [List.length_cons, show b + (t.length + 1) = b + 1 + t.length from by omega]
    constructor
    · intro h
      exact ⟨⟨h.1, h.2.1, (i.mp h.2.2).1⟩, (i.mp h.2.2).2⟩
    · intro h
      exact ⟨h.1.1, h.1.2.1, i.mpr ⟨h.1.2.2, h.2⟩⟩
theorem mv_ok_fr {K V S K' V' S' : Nat → Int32} {s t : Nat} {l : List mv_P} (h : mv_ok K V S s l) (hK : mv_fr t K K') (hV : mv_fr t V V') (hS : ∀ j, j ≠ t → S' j = S j) (ne : s ≠ t) : mv_ok K' V' S' s l := by
  obtain ⟨h1, h2, h3⟩ := h
  refine ⟨(hS s ne).trans h1, h2, mv_rn_cg h3 ?_⟩
  intro j a b
  have o : j < t * 28 ∨ t * 28 + 28 ≤ j := by omega
  exact ⟨hK j o, hV j o⟩
theorem mv_fd_no {k : Int32} : ∀ (l : List mv_P) (b : Nat), (∀ p, p ∈ l → p.1 ≠ k) → mv_fd k b l = -1 := by
  intro l
  induction l with
  | nil => intro b _; rfl
  | cons p t ih =>
    intro b h
    rw [mv_fd, if_neg (h p (List.mem_cons_self))]
    exact ih (b + 1) (fun q hq => h q (List.mem_cons_of_mem _ hq))
theorem mv_fd_ye {k v : Int32} {B : List mv_P} : ∀ (A : List mv_P) (b : Nat), (∀ p, p ∈ A → p.1 ≠ k) → mv_fd k b (A ++ (k, v) :: B) = nI (b + A.length) := by
  intro A
  induction A with
  | nil => intro b _; rw [List.nil_append, mv_fd, if_pos rfl]; rfl
  | cons p t ih =>
    intro b h
    rw [List.cons_append, mv_fd, if_neg (h p (List.mem_cons_self)), ih (b + 1) (fun q hq => h q (List.mem_cons_of_mem _ hq)), List.length_cons]
    exact congrArg nI (by omega)
theorem mv_lk_no {k : Int32} : ∀ (l : List mv_P), (∀ p, p ∈ l → p.1 ≠ k) → mv_lk k l = none := by
  intro l
  induction l with
  | nil => intro _; rfl
  | cons p t ih =>
    intro h
    rw [mv_lk, if_neg (h p (List.mem_cons_self))]
    exact ih (fun q hq => h q (List.mem_cons_of_mem _ hq))
theorem mv_lk_ye {k v : Int32} {B : List mv_P} : ∀ (A : List mv_P), (∀ p, p ∈ A → p.1 ≠ k) → mv_lk k (A ++ (k, v) :: B) = some v := by
  intro A
  induction A with
  | nil => intro _; rw [List.nil_append, mv_lk, if_pos rfl]
  | cons p t ih =>
    intro h
    rw [List.cons_append, mv_lk, if_neg (h p (List.mem_cons_self)), ih (fun q hq => h q (List.mem_cons_of_mem _ hq))]
theorem mv_cs (k : Int32) : ∀ (l : List mv_P), (∀ p, p ∈ l → p.1 ≠ k) ∨ ∃ A v B, l = A ++ (k, v) :: B ∧ ∀ p, p ∈ A → p.1 ≠ k := by
  intro l
  induction l with
  | nil => exact Or.inl (fun p hp => absurd hp (List.not_mem_nil))
  | cons p t ih =>
    by_cases e : p.1 = k
    · exact Or.inr ⟨[], p.2, t, by rw [← e]; rfl, fun q hq => absurd hq (List.not_mem_nil)⟩
    · cases ih with
      | inl h =>
        refine Or.inl (fun q hq => ?_)
        cases List.mem_cons.mp hq with
        | inl a => rw [a]; exact e
        | inr a => exact h q a
      | inr h =>
        obtain ⟨A, v, B, rfl, hA⟩ := h
        refine Or.inr ⟨p :: A, v, B, rfl, fun q hq => ?_⟩
        cases List.mem_cons.mp hq with
        | inl a => rw [a]; exact e
        | inr a => exact hA q a
theorem mv_fl (k : Int32) {K V : Nat → Int32} {l : List mv_P} {b : Nat} (h : mv_rn K V b l) : (mv_lk k l = none ∧ mv_fd k b l = -1) ∨ ∃ c, b ≤ c ∧ c < b + l.length ∧ mv_fd k b l = nI c ∧ mv_lk k l = some (V c) := by
  cases mv_cs k l with
  | inl n => exact Or.inl ⟨mv_lk_no l n, mv_fd_no l b n⟩
  | inr y =>
    obtain ⟨A, v, B, rfl, hA⟩ := y
    refine Or.inr ⟨b + A.length, by omega, ?_, mv_fd_ye A b hA, ?_⟩
    · rw [List.length_append, List.length_cons]; omega
    · rw [mv_lk_ye A hA]
      have h2 := ((mv_rn_ap _ A b).mp h).2
      exact congrArg some h2.2.1.symm
theorem mv_n1 {c : Nat} (h : c < 2 ^ 31) : ¬ nI c = -1 := by
  intro e
  have e2 : (nI c).toInt = (-1 : Int32).toInt := by rw [e]
  rw [nI_toInt h, show (-1 : Int32).toInt = -1 from by decide] at e2
  omega
theorem mv_sz {a b : Nat} (h : a = b) : nI a = nI b := by rw [h]
/-- a version asked for: not kept, or a natural number within -/
theorem mv_kc (x : Int32) {old cur : Nat} (ho : old < 2 ^ 31) (hc : cur < 2 ^ 31) : (x < nI old ∨ nI cur < x) ∨ ∃ w, old ≤ w ∧ w ≤ cur ∧ x = nI w := by
  by_cases h1 : x < nI old
  · exact Or.inl (Or.inl h1)
  · by_cases h2 : nI cur < x
    · exact Or.inl (Or.inr h2)
    · refine Or.inr ?_
      have h0 : ¬ x < 0 := by
        intro z
        exact h1 (Int32.lt_of_lt_of_le z (nI_pos' ho))
      obtain ⟨j, hj, rfl⟩ := nI_of h0
      rw [nI_ltI hj ho] at h1
      rw [nI_ltI hc hj] at h2
      exact ⟨j, by omega, by omega, rfl⟩
end
