/-! Y: copy, put, erase, forget -/
theorem mv_Y_cpl {post : SY → Prop} {f t : Nat} {o c : Int32} {K0 V0 S : Nat → Int32} (hf : f < 41) (ht : t < 41) (hp : ∀ K V, mv_fr t K0 K → mv_fr t V0 V → (∀ j, j < 28 → K (t * 28 + j) = K0 (f * 28 + j) ∧ V (t * 28 + j) = V0 (f * 28 + j)) → post (o, c, K, V, upd S t (S f))) : ∀ (d i : Nat) (K V : Nat → Int32), i + d = 28 → (∀ j, (j < t * 28 ∨ t * 28 + i ≤ j) → K j = K0 j ∧ V j = V0 j) → (∀ j, j < i → K (t * 28 + j) = K0 (f * 28 + j) ∧ V (t * 28 + j) = V0 (f * 28 + j)) → wY_copy_2 post (nI f) (nI t) o c (d + 1) (nI i) K V S := by
  intro d
  induction d with
  | zero =>
    intro i K V h fr hj
    have e : i = 28 := by omega
    subst e
    rw [wY_copy_2]
    dsimp only
    rw [nI_clamp (n := f) (by omega), nI_clamp (n := t) (by omega)]
    exact br_t (nI_le (a := 28) (by omega) (by omega)) ⟨vp_in_nI hf (by omega), vp_in_nI ht (by omega), nm_e (hp K V (fun j h => (fr j h).1) (fun j h => (fr j h).2) hj)⟩
  | succ d ih =>
    intro i K V h fr hj
    have o1 : f * 28 + i < t * 28 ∨ t * 28 + i ≤ f * 28 + i := by omega
    rw [wY_copy_2]
    dsimp only
    rw [mv_m28, mv_m28, nI_add (f * 28) i, nI_add (t * 28) i, nI_clamp (n := f * 28 + i) (by omega), nI_clamp (n := t * 28 + i) (by omega), (fr _ o1).1, (fr _ o1).2]
    refine br_f (nI_ge (b := 28) (by omega) (by omega)) ⟨vp_in_nI (by omega) (by omega), vp_in_nI (by omega) (by omega), nm_e ⟨vp_in_nI (by omega) (by omega), vp_in_nI (by omega) (by omega), nm_e (nm_r (nI_1 i) ?_)⟩⟩
    refine ih (i + 1) _ _ (by omega) ?_ ?_
    · intro j hj'
      rw [pk_un (by omega), pk_un (by omega)]
      exact fr j (by omega)
    · intro j hj'
      by_cases e : j = i
      · subst e
        exact ⟨pk_us, pk_us⟩
      · rw [pk_un (by omega), pk_un (by omega)]
        exact hj j (by omega)
theorem mv_Y_cp {post : SY → Prop} {f t : Nat} {o c : Int32} {K V S : Nat → Int32} (hf : f < 41) (ht : t < 41) (hp : ∀ K' V' S', mv_fr t K K' → mv_fr t V V' → (∀ j, j ≠ t → S' j = S j) → (∀ l, mv_ok K V S f l → mv_ok K' V' S' t l) → post (o, c, K', V', S')) : wpY_copy post (o, c, K, V, S) (nI f) (nI t) := by
  unfold wpY_copy
  refine ⟨_, mv_Y_cpl (K0 := K) (V0 := V) hf ht ?_ 28 0 K V (by omega) (fun j _ => ⟨rfl, rfl⟩) (fun j hj => by omega)⟩
  intro K' V' fK fV hj
  refine hp K' V' _ fK fV (fun j ne => pk_un ne) (fun l hl => ⟨pk_us.trans hl.1, hl.2.1, mv_rn_sh l _ _ hl.2.2 (fun j h => hj j ?_)⟩)
  have := hl.2.1
  omega
theorem mv_Y_pt {post : Int32 → SY → Prop} {t a : Nat} {o c k v : Int32} {K V S : Nat → Int32} {A B : List mv_P} (ht : t < 41) (ha : a = t * 28 + A.length) (hn : A.length + B.length < 28) (hS : S t = nI (A.length + B.length + 1)) (hA : mv_rn K V (t * 28) A) (hB : mv_rn K V (t * 28 + A.length + 1) B) (hp : ∀ K' V', mv_fr t K K' → mv_fr t V V' → mv_ok K' V' S t (A ++ (k, v) :: B) → post c (o, c, K', V', S)) : wY_put_120 post k v (nI a) o c K V S := by
  subst ha
  unfold wY_put_120
  rw [nI_clamp (by omega)]
  refine ⟨vp_in_nI (by omega) (by omega), nm_e ⟨vp_in_nI (by omega) (by omega), nm_e (hp _ _ (mv_fr_up (mv_fr_rf _ _) (by omega) (by omega)) (mv_fr_up (mv_fr_rf _ _) (by omega) (by omega)) ⟨?_, ?_, ?_⟩)⟩⟩
  · rw [hS, List.length_append, List.length_cons]
    rfl
  · rw [List.length_append, List.length_cons]
    omega
  · exact (mv_rn_ap _ A _).mpr ⟨mv_rn_cg hA (fun j h1 h2 => ⟨pk_un (by omega), pk_un (by omega)⟩), pk_us, pk_us, mv_rn_cg hB (fun j h1 h2 => ⟨pk_un (by omega), pk_un (by omega)⟩)⟩
theorem mv_Y_put {post : Int32 → SY → Prop} {s cur : Nat} {o k v : Int32} {K V S : Nat → Int32} {m : List mv_P} (hs : s < 40) (hm : mv_ok K V S s m) (hr : (∀ p, p ∈ m → p.1 ≠ k) → m.length < 28) (hp : ∀ K' V' S' m', mv_fr (s + 1) K K' → mv_fr (s + 1) V V' → (∀ j, j ≠ s + 1 → S' j = S j) → mv_ok K' V' S' (s + 1) m' → (((∀ p, p ∈ m → p.1 ≠ k) ∧ m' = m ++ [(k, v)]) ∨ ∃ A w B, m = A ++ (k, w) :: B ∧ m' = A ++ (k, v) :: B) → post (nI (cur + 1)) (o, nI (cur + 1), K', V', S')) : wY_put_52 post k v (nI s) o (nI cur) K V S := by
  unfold wY_put_52
  rw [nI_1]
  refine mv_Y_cp (by omega) (by omega) ?_
  intro K1 V1 S1 fK fV fS hc
  have h1 := hc m hm
  refine nm_r (nI_1 cur) (mv_Y_ff (by omega) h1 ?_)
  obtain ⟨e1, e2, e3⟩ := h1
  cases mv_cs k m with
  | inl n =>
    rw [mv_fd_no m _ n]
    have hl := hr n
    refine br_f (by decide) ⟨vp_in_nI (by omega) (by omega), ?_⟩
    rw [mv_m28, nI_clamp (n := s + 1) (by omega), e1, nI_add, nI_1]
    refine nm_e ⟨vp_in_nI (by omega) (by omega), vp_in_nI (by omega) (by omega), nm_e ?_⟩
    refine mv_Y_pt (A := m) (B := []) (by omega) rfl (by rw [List.length_nil]; omega) pk_us e3 True.intro ?_
    intro K' V' gK gV ho
    refine hp K' V' _ _ (mv_fr_tr fK gK) (mv_fr_tr fV gV) (fun j ne => (pk_un ne).trans (fS j ne)) ho (Or.inl ⟨n, rfl⟩)
  | inr y =>
    obtain ⟨A, w, B, rfl, hA⟩ := y
    rw [mv_fd_ye A _ hA]
    obtain ⟨r1, r2, r3, r4⟩ := (mv_rn_ap _ A _).mp e3
    rw [List.length_append, List.length_cons] at e1 e2
    refine br_t (nI_pos' (by omega)) (mv_Y_pt (A := A) (B := B) (by omega) rfl (by omega) e1 r1 r4 ?_)
    intro K' V' gK gV ho
    exact hp K' V' _ _ (mv_fr_tr fK gK) (mv_fr_tr fV gV) fS ho (Or.inr ⟨A, w, B, rfl, rfl⟩)
theorem mv_Y_er {post : Int32 → SY → Prop} {old cur : Nat} {k w : Int32} {K V S : Nat → Int32} {A B : List mv_P} (hk : mv_wi (-1000) 1000 k) (h0 : old ≤ cur) (h4 : cur - old < 40) (hm : mv_ok K V S (cur - old) (A ++ (k, w) :: B)) (hA : ∀ p, p ∈ A → p.1 ≠ k) (hp : ∀ K' V' S' m', mv_fr (cur - old + 1) K K' → mv_fr (cur - old + 1) V V' → (∀ j, j ≠ cur - old + 1 → S' j = S j) → mv_ok K' V' S' (cur - old + 1) m' → (A ++ B).Perm m' → post (nI (cur + 1)) (nI old, nI (cur + 1), K', V', S')) : wpY_erase post (nI old, nI cur, K, V, S) k := by
  unfold wpY_erase
  dsimp only
  have hl := hm.2.1
  rw [List.length_append, List.length_cons] at hl
  refine mv_Y_bk (fun a => absurd hk a) (fun _ => br_t rfl (nm_r (pk_sub h0) (mv_Y_ff (by omega) hm ?_)))
  rw [mv_fd_ye A _ hA]
  refine br_t (nI_pos' (by omega)) (br_t (nI_lt (b := 40) (by omega) (by omega)) ?_)
  rw [nI_1]
  generalize hg : cur - old = s at *
  refine mv_Y_cp (by omega) (by omega) ?_
  intro K1 V1 S1 fK fV fS hc
  have h1 := hc _ hm
  refine nm_r (nI_1 cur) (mv_Y_ff (by omega) h1 ?_)
  rw [mv_fd_ye A _ hA]
  dsimp only
  obtain ⟨e1, e2, e3⟩ := h1
  obtain ⟨r1, r2, r3, r4⟩ := (mv_rn_ap _ A _).mp e3
  rw [List.length_append, List.length_cons, show A.length + (B.length + 1) = A.length + B.length + 1 from rfl] at e1
  rw [mv_m28, nI_clamp (n := s + 1) (by omega), e1, nI_add, show (s + 1) * 28 + (A.length + B.length + 1) = (s + 1) * 28 + (A.length + B.length) + 1 from rfl, nI_pred, nI_pred, nI_clamp (n := (s + 1) * 28 + A.length) (by omega)]
  have i1 : vp_in (nI (s + 1)) 41 := vp_in_nI (by omega) (by omega)
  have i2 : vp_in (nI ((s + 1) * 28 + (A.length + B.length))) 1148 := vp_in_nI (by omega) (by omega)
  have i3 : vp_in (nI ((s + 1) * 28 + A.length)) 1148 := vp_in_nI (by omega) (by omega)
  refine ⟨i1, nm_e ⟨i2, i3, nm_e ⟨i2, i3, nm_e ⟨i1, i1, nm_e ?_⟩⟩⟩⟩
  rw [nI_clamp (n := (s + 1) * 28 + (A.length + B.length)) (by omega)]
  cases hB : B.length with
  | zero =>
    have eB : B = [] := List.eq_nil_of_length_eq_zero hB
    refine hp _ _ _ A (mv_fr_tr fK (mv_fr_up (mv_fr_rf _ _) (by omega) (by omega))) (mv_fr_tr fV (mv_fr_up (mv_fr_rf _ _) (by omega) (by omega))) (fun j ne => (pk_un ne).trans (fS j ne)) ⟨pk_us, by omega, mv_rn_cg r1 (fun j a b => ⟨pk_un (by omega), pk_un (by omega)⟩)⟩ ?_
    rw [eB, List.append_nil]
  | succ d =>
    obtain ⟨C, q, eB, hC⟩ := mv_last hB
    rw [eB] at r4
    obtain ⟨t1, t2, t3, _⟩ := (mv_rn_ap _ C _).mp r4
    rw [hC] at t2 t3
    rw [show (s + 1) * 28 + (A.length + (d + 1)) = (s + 1) * 28 + A.length + 1 + d from by omega, t2, t3]
    refine hp _ _ _ (A ++ q :: C) (mv_fr_tr fK (mv_fr_up (mv_fr_rf _ _) (by omega) (by omega))) (mv_fr_tr fV (mv_fr_up (mv_fr_rf _ _) (by omega) (by omega))) (fun j ne => (pk_un ne).trans (fS j ne)) ⟨?_, ?_, ?_⟩ ?_
    · rw [pk_us, List.length_append, List.length_cons, hC]
    · rw [List.length_append, List.length_cons]
      omega
    · exact (mv_rn_ap _ A _).mpr ⟨mv_rn_cg r1 (fun j a b => ⟨pk_un (by omega), pk_un (by omega)⟩), pk_us, pk_us, mv_rn_cg t1 (fun j a b => ⟨pk_un (by omega), pk_un (by omega)⟩)⟩
    · rw [eB]
      exact List.Perm.append_left A (List.perm_append_singleton q C)
theorem mv_Y_fol {post : Int32 → SY → Prop} {old cur w : Nat} {M : Nat → List mv_P} (hc : cur < 2 ^ 30) (h1 : old ≤ w) (h2 : w ≤ cur) (h3 : cur ≤ old + 40) (hp : ∀ K V S, (∀ j, j ≤ cur - w → mv_ok K V S j (M (w + j))) → post (nI (cur - w)) (nI w, nI cur, K, V, S)) : ∀ (r i : Nat) (K V S : Nat → Int32), i + r = cur - w + 1 → (∀ j, j < i → mv_ok K V S j (M (w + j))) → (∀ j, i ≤ j → j ≤ cur - old → mv_ok K V S j (M (old + j))) → wY_forget_20 post (nI w) (nI (w - old)) (r + 1) (nI i) (nI old) (nI cur) K V S := by
  intro r
  induction r with
  | zero =>
    intro i K V S h a b
    rw [wY_forget_20]
    dsimp only
    rw [pk_sub (show old ≤ cur from by omega), nI_add, pk_sub h2]
    exact br_t (nI_lt (by omega) (by omega)) (hp K V S (fun j hj => a j (by omega)))
  | succ r ih =>
    intro i K V S h a b
    rw [wY_forget_20]
    dsimp only
    rw [pk_sub (show old ≤ cur from by omega), nI_add]
    refine br_f (nI_nlt (by omega) (by omega)) (mv_Y_cp (by omega) (by omega) ?_)
    intro K' V' S' fK fV fS hcp
    refine nm_r (nI_1 i) (ih (i + 1) K' V' S' (by omega) ?_ ?_)
    · intro j hj
      by_cases e : j = i
      · subst e
        have q := hcp _ (b (j + (w - old)) (by omega) (by omega))
        rw [show old + (j + (w - old)) = w + j from by omega] at q
        exact q
      · exact mv_ok_fr (a j (by omega)) fK fV fS e
    · intro j hj1 hj2
      exact mv_ok_fr (b j (by omega) hj2) fK fV fS (by omega)
theorem mv_Y_fo {post : Int32 → SY → Prop} {old cur w : Nat} {K V S : Nat → Int32} {M : Nat → List mv_P} (hc : cur < 2 ^ 30) (h1 : old ≤ w) (h2 : w ≤ cur) (h3 : cur ≤ old + 40) (hM : ∀ y, old ≤ y → y ≤ cur → mv_ok K V S (y - old) (M y)) (hp : ∀ K V S, (∀ y, w ≤ y → y ≤ cur → mv_ok K V S (y - w) (M y)) → post (nI (cur - w)) (nI w, nI cur, K, V, S)) : wpY_forget post (nI old, nI cur, K, V, S) (nI w) := by
  unfold wpY_forget
  refine mv_Y_kt (by omega) h1 h2 (br_f (by decide) (nm_r (pk_sub h1) ⟨_, mv_Y_fol (M := M) hc h1 h2 h3 ?_ (cur - w + 1) 0 K V S (by omega) (fun j hj => by omega) ?_⟩))
  · intro K' V' S' h
    refine hp K' V' S' (fun y a b => ?_)
    have q := h (y - w) (by omega)
    rw [show w + (y - w) = y from by omega] at q
    exact q
  · intro j a b
    have q := hM (old + j) (by omega) (by omega)
    rw [show old + j - old = j from by omega] at q
    exact q
