/-! the mathematics: what the two orders have in common -/
theorem mv_so_kd {l : List mv_P} (h : mv_so l) : mv_kd l := List.Pairwise.imp (fun {a b} q => by intro e; rw [e] at q; exact Int32.lt_irrefl q) h
theorem mv_kd_pm {l m : List mv_P} (p : l.Perm m) (h : mv_kd l) : mv_kd m := List.Perm.pairwise p h (fun {x y} q => fun e => q e.symm)
theorem mv_lk_mem {k v : Int32} {l : List mv_P} (h : mv_kd l) : mv_lk k l = some v ↔ (k, v) ∈ l := by
  induction l with
  | nil =>
    constructor
    · intro e; cases e
    · intro e; cases e
  | cons p t ih =>
    obtain ⟨h1, h2⟩ := List.pairwise_cons.mp h
    rw [mv_lk, List.mem_cons]
    by_cases e : p.1 = k
    · rw [if_pos e]
      constructor
      · intro z
        refine Or.inl ?_
        rw [← e, ← Option.some.inj z]
      · intro z
        cases z with
        | inl z => rw [← z]
        | inr z => exact absurd e (h1 _ z)
    · rw [if_neg e, ih h2]
      constructor
      · exact Or.inr
      · intro z
        cases z with
        | inl z => exact absurd (by rw [← z]) e
        | inr z => exact z
theorem mv_lk_pm {l m : List mv_P} (k : Int32) (p : l.Perm m) (h : mv_kd l) : mv_lk k l = mv_lk k m := by
  have h' := mv_kd_pm p h
  cases e : mv_lk k l with
  | none =>
    cases e' : mv_lk k m with
    | none => rfl
    | some v =>
      have q := (mv_lk_mem h).mpr (p.mem_iff.mpr ((mv_lk_mem h').mp e'))
      rw [e] at q
      cases q
  | some v => exact ((mv_lk_mem h').mpr (p.mem_iff.mp ((mv_lk_mem h).mp e))).symm
theorem mv_sm_pm {l m : List mv_P} (f : mv_P → Int32) (p : l.Perm m) : mv_sm f l = mv_sm f m := by
  induction p with
  | nil => rfl
  | cons x _ ih => rw [mv_sm, mv_sm, ih]
  | swap x y t => rw [mv_sm, mv_sm, mv_sm, mv_sm, mv_ad, mv_ad, Int32.add_comm (f y) (f x)]
  | trans _ _ a b => exact a.trans b
theorem mv_sm_cg {f g : mv_P → Int32} {l : List mv_P} (h : ∀ p, p ∈ l → f p = g p) : mv_sm f l = mv_sm g l := by
  induction l with
  | nil => rfl
  | cons p t ih => rw [mv_sm, mv_sm, h p List.mem_cons_self, ih (fun q hq => h q (List.mem_cons_of_mem _ hq))]
theorem mv_sm_ad (f g : mv_P → Int32) (l : List mv_P) : mv_sm (fun p => f p + g p) l = mv_sm f l + mv_sm g l := by
  induction l with
  | nil => rfl
  | cons p t ih =>
    rw [mv_sm, mv_sm, mv_sm, ih]
    generalize mv_sm f t = a
    generalize mv_sm g t = b
    generalize f p = c
    generalize g p = d
    grind
theorem mv_sm_0 (l : List mv_P) : mv_sm (fun _ => 0) l = 0 := by
  induction l with
  | nil => rfl
  | cons p t ih => rw [mv_sm, ih]; rfl
theorem mv_sm_ap (f : mv_P → Int32) (A B : List mv_P) : mv_sm f (A ++ B) = mv_sm f A + mv_sm f B := by
  induction A with
  | nil => rw [List.nil_append, mv_sm, Int32.zero_add]
  | cons p t ih => rw [List.cons_append, mv_sm, mv_sm, ih, mv_ad]
theorem mv_sm_ex (e : mv_P → mv_P → Int32) (A B : List mv_P) : mv_sm (fun p => mv_sm (e p) B) A = mv_sm (fun q => mv_sm (fun p => e p q) A) B := by
  induction A with
  | nil => exact (mv_sm_0 B).symm
  | cons p t ih =>
    rw [mv_sm, ih, ← mv_sm_ad]
    exact mv_sm_cg (fun q _ => rfl)
noncomputable def mv_in (lo hi : Int32) (m : List mv_P) (p : mv_P) : Int32 := by
  classical exact if mv_wi lo hi p.1 ∧ ¬ mv_lk p.1 m = none then 1 else 0
noncomputable def mv_eq (lo hi : Int32) (p q : mv_P) : Int32 := by
  classical exact if mv_wi lo hi p.1 ∧ p.1 = q.1 then 1 else 0
theorem mv_eq_c (lo hi : Int32) (p q : mv_P) : mv_eq lo hi p q = mv_eq lo hi q p := by
  unfold mv_eq
  by_cases e : p.1 = q.1
  · rw [e]
  · rw [if_neg (fun z => e z.2), if_neg (fun z => e z.2.symm)]
theorem mv_in_sm (lo hi : Int32) (p : mv_P) {m : List mv_P} (h : mv_kd m) : mv_in lo hi m p = mv_sm (mv_eq lo hi p) m := by
  induction m with
  | nil =>
    unfold mv_in
    rw [if_neg (fun z => z.2 rfl)]
    rfl
  | cons q t ih =>
    obtain ⟨h1, h2⟩ := List.pairwise_cons.mp h
    rw [mv_sm, ← ih h2]
    unfold mv_in mv_eq
    rw [mv_lk]
    by_cases e : q.1 = p.1
    · have n : mv_lk p.1 t = none := mv_lk_no t (fun r hr z => h1 r hr (e.trans z.symm))
      rw [if_pos e, n]
      by_cases w : mv_wi lo hi p.1
      · rw [if_pos ⟨w, fun z => by cases z⟩, if_pos ⟨w, e.symm⟩, if_neg (fun z => z.2 rfl)]
        rfl
      · rw [if_neg (fun z => w z.1), if_neg (fun z => w z.1), if_neg (fun z => w z.1)]
        rfl
    · rw [if_neg e, if_neg (c := mv_wi lo hi p.1 ∧ p.1 = q.1) (fun z => e z.2.symm), Int32.zero_add]
theorem mv_in_ex (lo hi : Int32) {A B : List mv_P} (hA : mv_kd A) (hB : mv_kd B) : mv_sm (mv_in lo hi B) A = mv_sm (mv_in lo hi A) B := by
  rw [mv_sm_cg (fun p _ => mv_in_sm lo hi p hB), mv_sm_ex, mv_sm_cg (g := mv_in lo hi A) (fun q _ => ?_)]
  rw [mv_in_sm lo hi q hA]
  exact mv_sm_cg (fun p _ => mv_eq_c lo hi p q)
theorem mv_d13 (lo hi : Int32) (m : List mv_P) (p : mv_P) : mv_d1 lo hi m p = mv_d3 lo hi m p + mv_in lo hi m p := by
  by_cases w : mv_wi lo hi p.1
  · by_cases n : mv_lk p.1 m = none
    · rw [mv_d1b w (by rw [n]; intro z; cases z), mv_d3a w n, mv_in, if_neg (fun z => z.2 n)]
      rfl
    · rw [mv_in, if_pos ⟨w, n⟩]
      by_cases e : mv_lk p.1 m = some p.2
      · rw [mv_d1a w e, mv_d3b w n e]
        rfl
      · rw [mv_d1b w e, mv_d3c w n e]
        rfl
  · rw [mv_d1f w, mv_d3f w, mv_in, if_neg (fun z => w z.1)]
    rfl
theorem mv_c12 (lo hi : Int32) (m : List mv_P) (p : mv_P) : mv_c1 lo hi p = mv_d2 lo hi m p + mv_in lo hi m p := by
  by_cases w : mv_wi lo hi p.1
  · by_cases n : mv_lk p.1 m = none
    · rw [mv_c1t w, mv_d2a w n, mv_in, if_neg (fun z => z.2 n)]
      rfl
    · rw [mv_in, if_pos ⟨w, n⟩, mv_c1t w, mv_d2b w n]
      rfl
  · rw [mv_c1f w, mv_d2f w, mv_in, if_neg (fun z => w z.1)]
    rfl
theorem mv_di (lo hi : Int32) {A B A' B' : List mv_P} (hA : mv_kd A) (hB : mv_kd B) (pA : A.Perm A') (pB : B.Perm B') : mv_sm (mv_c1 lo hi) B' + mv_sm (mv_d3 lo hi B') A' = mv_sm (mv_d1 lo hi B) A + mv_sm (mv_d2 lo hi A) B := by
  rw [← mv_sm_pm _ pB, ← mv_sm_pm _ pA]
  rw [mv_sm_cg (f := mv_d3 lo hi B') (g := mv_d3 lo hi B) (fun p _ => by unfold mv_d3; rw [mv_lk_pm p.1 pB hB])]
  rw [mv_sm_cg (f := mv_c1 lo hi) (fun p _ => mv_c12 lo hi A p), mv_sm_cg (f := mv_d1 lo hi B) (fun p _ => mv_d13 lo hi B p), mv_sm_ad, mv_sm_ad, mv_in_ex lo hi hA hB]
  generalize mv_sm (mv_d2 lo hi A) B = a
  generalize mv_sm (mv_in lo hi A) B = b
  generalize mv_sm (mv_d3 lo hi B) A = c
  grind
/-- next -/
theorem mv_nb_ch (k : Int32) : ∀ (m : List mv_P) (x : Int32), mv_nb k x m ≤ x ∧ (∀ p, p ∈ m → ¬ p.1 ≤ k → mv_nb k x m ≤ p.1) ∧ (mv_nb k x m = x ∨ ∃ p, p ∈ m ∧ ¬ p.1 ≤ k ∧ mv_nb k x m = p.1) := by
  intro m
  induction m with
  | nil =>
    intro x
    exact ⟨Int32.le_refl _, fun p hp => absurd hp List.not_mem_nil, Or.inl rfl⟩
  | cons q t ih =>
    intro x
    rw [mv_nb]
    by_cases a : q.1 ≤ k
    · rw [if_pos a]
      obtain ⟨i1, i2, i3⟩ := ih x
      refine ⟨i1, fun p hp hk => ?_, ?_⟩
      · cases List.mem_cons.mp hp with
        | inl e => rw [e] at hk; exact absurd a hk
        | inr e => exact i2 p e hk
      · cases i3 with
        | inl e => exact Or.inl e
        | inr e =>
          obtain ⟨p, e1, e2, e3⟩ := e
          exact Or.inr ⟨p, List.mem_cons_of_mem _ e1, e2, e3⟩
    · rw [if_neg a]
      by_cases b : x ≤ q.1
      · rw [if_pos b]
        obtain ⟨i1, i2, i3⟩ := ih x
        refine ⟨i1, fun p hp hk => ?_, ?_⟩
        · cases List.mem_cons.mp hp with
          | inl e => rw [e]; exact Int32.le_trans i1 b
          | inr e => exact i2 p e hk
        · cases i3 with
          | inl e => exact Or.inl e
          | inr e =>
            obtain ⟨p, e1, e2, e3⟩ := e
            exact Or.inr ⟨p, List.mem_cons_of_mem _ e1, e2, e3⟩
      · rw [if_neg b]
        obtain ⟨i1, i2, i3⟩ := ih q.1
        refine ⟨Int32.le_trans i1 (Int32.le_of_lt (Int32.not_le.mp b)), fun p hp hk => ?_, ?_⟩
        · cases List.mem_cons.mp hp with
          | inl e => rw [e]; exact i1
          | inr e => exact i2 p e hk
        · cases i3 with
          | inl e => exact Or.inr ⟨q, List.mem_cons_self, a, e⟩
          | inr e =>
            obtain ⟨p, e1, e2, e3⟩ := e
            exact Or.inr ⟨p, List.mem_cons_of_mem _ e1, e2, e3⟩
theorem mv_nx_ch (k : Int32) : ∀ (m : List mv_P), mv_so m → mv_kr m → mv_nx k m ≤ 100000 ∧ (∀ p, p ∈ m → ¬ p.1 ≤ k → mv_nx k m ≤ p.1) ∧ (mv_nx k m = 100000 ∨ ∃ p, p ∈ m ∧ ¬ p.1 ≤ k ∧ mv_nx k m = p.1) := by
  intro m
  induction m with
  | nil =>
    intro _ _
    exact ⟨Int32.le_refl _, fun p hp => absurd hp List.not_mem_nil, Or.inl rfl⟩
  | cons q t ih =>
    intro hs hr
    obtain ⟨s1, s2⟩ := List.pairwise_cons.mp hs
    rw [mv_nx]
    by_cases a : q.1 ≤ k
    · rw [if_pos a]
      obtain ⟨i1, i2, i3⟩ := ih s2 (fun p hp => hr p (List.mem_cons_of_mem _ hp))
      refine ⟨i1, fun p hp hk => ?_, ?_⟩
      · cases List.mem_cons.mp hp with
        | inl e => rw [e] at hk; exact absurd a hk
        | inr e => exact i2 p e hk
      · cases i3 with
        | inl e => exact Or.inl e
        | inr e =>
          obtain ⟨p, e1, e2, e3⟩ := e
          exact Or.inr ⟨p, List.mem_cons_of_mem _ e1, e2, e3⟩
    · rw [if_neg a]
      refine ⟨Int32.le_trans (hr q List.mem_cons_self) (by decide), fun p hp hk => ?_, Or.inr ⟨q, List.mem_cons_self, a, rfl⟩⟩
      cases List.mem_cons.mp hp with
      | inl e => rw [e]; exact Int32.le_refl _
      | inr e => exact Int32.le_of_lt (s1 p e)
theorem mv_nxt (k : Int32) {l m : List mv_P} (p : l.Perm m) (hs : mv_so l) (hr : mv_kr l) : mv_nb k 100000 m = mv_nx k l := by
  obtain ⟨a1, a2, a3⟩ := mv_nb_ch k m 100000
  obtain ⟨b1, b2, b3⟩ := mv_nx_ch k l hs hr
  apply Int32.le_antisymm
  · cases b3 with
    | inl e => rw [e]; exact a1
    | inr e =>
      obtain ⟨q, e1, e2, e3⟩ := e
      rw [e3]
      exact a2 q (p.mem_iff.mp e1) e2
  · cases a3 with
    | inl e => rw [e]; exact b1
    | inr e =>
      obtain ⟨q, e1, e2, e3⟩ := e
      rw [e3]
      exact b2 q (p.mem_iff.mpr e1) e2
/-- keyAt -/
theorem mv_rk_so {A B : List mv_P} {p : mv_P} (h : mv_so (A ++ p :: B)) : mv_sm (mv_rk p.1) (A ++ p :: B) = nI A.length := by
  obtain ⟨h1, h2, h3⟩ := List.pairwise_append.mp h
  obtain ⟨h4, h5⟩ := List.pairwise_cons.mp h2
  have hA : ∀ (t : List mv_P), (∀ q, q ∈ t → q.1 < p.1) → mv_sm (mv_rk p.1) t = nI t.length := by
    intro t
    induction t with
    | nil => intro _; rfl
    | cons q t ih =>
      intro hq
      rw [mv_sm, ih (fun r hr => hq r (List.mem_cons_of_mem _ hr)), mv_rk, if_neg (Int32.not_le.mpr (hq q List.mem_cons_self)), List.length_cons, Int32.add_comm, nI_1]
  have hB : mv_sm (mv_rk p.1) B = 0 := by
    rw [mv_sm_cg (g := fun _ => 0) (fun q hq => ?_), mv_sm_0]
    rw [mv_rk, if_pos (Int32.le_of_lt (h4 q hq))]
  rw [mv_sm_ap, mv_sm, hB, hA A (fun q hq => h3 q hq p List.mem_cons_self), mv_rk, if_pos (Int32.le_refl _)]
  exact Int32.add_zero _
theorem mv_ka_ch (R : Int32 → Int32) (x : Int32) (m : List mv_P) : (mv_ka R x m = 100000 ∧ ∀ p, p ∈ m → R p.1 ≠ x) ∨ ∃ p, p ∈ m ∧ R p.1 = x ∧ mv_ka R x m = p.1 := by
  induction m with
  | nil => exact Or.inl ⟨rfl, fun p hp => absurd hp List.not_mem_nil⟩
  | cons q t ih =>
    rw [mv_ka]
    by_cases e : R q.1 = x
    · rw [if_pos e]
      exact Or.inr ⟨q, List.mem_cons_self, e, rfl⟩
    · rw [if_neg e]
      cases ih with
      | inl i =>
        refine Or.inl ⟨i.1, fun p hp => ?_⟩
        cases List.mem_cons.mp hp with
        | inl z => rw [z]; exact e
        | inr z => exact i.2 p z
      | inr i =>
        obtain ⟨p, e1, e2, e3⟩ := i
        exact Or.inr ⟨p, List.mem_cons_of_mem _ e1, e2, e3⟩
theorem mv_ka0 {x : Int32} {l m : List mv_P} (pm : l.Perm m) (hs : mv_so l) (h : ∀ A p B, l = A ++ p :: B → x ≠ nI A.length) : mv_ka (fun g => mv_sm (mv_rk g) m) x m = 100000 := by
  cases mv_ka_ch (fun g => mv_sm (mv_rk g) m) x m with
  | inl a => exact a.1
  | inr a =>
    obtain ⟨p, e1, e2, e3⟩ := a
    obtain ⟨A, B, e⟩ := List.append_of_mem (pm.mem_iff.mpr e1)
    rw [← mv_sm_pm _ pm, e, mv_rk_so (e ▸ hs)] at e2
    exact absurd e2.symm (h A p B e)
theorem mv_ka1 {x : Int32} {l m A B : List mv_P} {p : mv_P} (pm : l.Perm m) (hs : mv_so l) (hl : l.length ≤ 28) (h : l = A ++ p :: B) (hx : x = nI A.length) : mv_ka (fun g => mv_sm (mv_rk g) m) x m = p.1 := by
  cases mv_ka_ch (fun g => mv_sm (mv_rk g) m) x m with
  | inl a =>
    refine absurd ?_ (a.2 p (pm.mem_iff.mp (by rw [h]; exact List.mem_append_right _ List.mem_cons_self)))
    rw [← mv_sm_pm _ pm, h, mv_rk_so (h ▸ hs), hx]
  | inr a =>
    obtain ⟨q, e1, e2, e3⟩ := a
    obtain ⟨C, D, e⟩ := List.append_of_mem (pm.mem_iff.mpr e1)
    rw [← mv_sm_pm _ pm, e, mv_rk_so (e ▸ hs), hx] at e2
    have z := h.symm.trans e
    have l1 : A.length ≤ 28 := by rw [h, List.length_append] at hl; omega
    have l2 : C.length ≤ 28 := by rw [e, List.length_append] at hl; omega
    rw [nI_eq (by omega) (by omega)] at e2
    have z2 := (List.append_inj z e2.symm).2
    injection z2 with z3 z4
    rw [e3, z3]
/-- since -/
theorem mv_far (Q : Nat → Prop) (D : Nat) : ∃ a, a ≤ D ∧ (∀ j, j < a → Q (j + 1)) ∧ (a = D ∨ ¬ Q (a + 1)) := by
  induction D with
  | zero => exact ⟨0, by omega, fun j hj => by omega, Or.inl rfl⟩
  | succ D ih =>
    obtain ⟨a, h1, h2, h3⟩ := ih
    by_cases q : Q (a + 1)
    · cases h3 with
      | inl e =>
        subst e
        refine ⟨a + 1, by omega, fun j hj => ?_, Or.inl rfl⟩
        by_cases t : j < a
        · exact h2 j t
        · rw [show j = a from by omega]; exact q
      | inr e => exact absurd q e
    · exact ⟨a, by omega, h2, Or.inr q⟩
