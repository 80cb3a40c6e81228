/-! X: copyToNewVersion, insertCell, replaceValue, removeCell -/
theorem mv_X_cpl {post : SX → Prop} {s ns n : Nat} {o c : Int32} {K0 V0 S : Nat → Int32} (hs : s < 41) (hns : ns < 41) (ne : s ≠ ns) (hS : S s = nI n) (hn : n ≤ 28) (hp : ∀ K V, mv_fr ns K0 K → mv_fr ns V0 V → (∀ j, j < n → K (ns * 28 + j) = K0 (s * 28 + j) ∧ V (ns * 28 + j) = V0 (s * 28 + j)) → post (o, c + 1, nI ns, K, V, upd S ns (nI n))) : ∀ (d i : Nat) (K V : Nat → Int32), i + d = n → mv_fr ns K0 K → mv_fr ns V0 V → (∀ j, j < i → K (ns * 28 + j) = K0 (s * 28 + j) ∧ V (ns * 28 + j) = V0 (s * 28 + j)) → wX_copyToNewVersion_40 post (nI ns) (nI (s * 28)) (nI (ns * 28)) o c (nI s) (d + 1) (nI i) K V S := by
  intro d
  induction d with
  | zero =>
    intro i K V h fK fV hj
    have e : i = n := by omega
    subst e
    rw [wX_copyToNewVersion_40]
    dsimp only
    rw [nI_clamp (n := s) (by omega), hS, nI_clamp (n := ns) (by omega)]
    exact ⟨vp_in_nI hs (by omega), br_t (Int32.le_refl _) ⟨vp_in_nI hs (by omega), vp_in_nI hns (by omega), nm_e (nm_e (hp K V fK fV hj))⟩⟩
  | succ d ih =>
    intro i K V h fK fV hj
    have o1 : s * 28 + i < ns * 28 ∨ ns * 28 + 28 ≤ s * 28 + i := by omega
    rw [wX_copyToNewVersion_40]
    dsimp only
    rw [nI_clamp (n := s) (by omega), hS, nI_add (s * 28) i, nI_add (ns * 28) i, nI_clamp (n := s * 28 + i) (by omega), nI_clamp (n := ns * 28 + i) (by omega), fK _ o1, fV _ o1]
    refine ⟨vp_in_nI hs (by omega), br_f (nI_ge (by omega) (by omega)) ⟨vp_in_nI (by omega) (by omega), vp_in_nI (by omega) (by omega), nm_e ⟨vp_in_nI (by omega) (by omega), vp_in_nI (by omega) (by omega), nm_e (nm_r (nI_1 i) ?_)⟩⟩⟩
    refine ih (i + 1) _ _ (by omega) (mv_fr_up fK (by omega) (by omega)) (mv_fr_up fV (by omega) (by omega)) ?_
    intro j hj'
    by_cases e : j = i
    · subst e
      exact ⟨pk_us, pk_us⟩
    · rw [pk_un (by omega), pk_un (by omega)]
      exact hj j (by omega)
theorem mv_X_cp {post : SX → Prop} {o : Int32} {cur : Nat} {K V S : Nat → Int32} {l : List mv_P} (hl : mv_ok K V S (cur % 41) l) (hp : ∀ K' V' S', mv_fr ((cur + 1) % 41) K K' → mv_fr ((cur + 1) % 41) V V' → (∀ j, j ≠ (cur + 1) % 41 → S' j = S j) → mv_ok K' V' S' ((cur + 1) % 41) l → post (o, nI (cur + 1), nI ((cur + 1) % 41), K', V', S')) : wpX_copyToNewVersion post (o, nI cur, nI (cur % 41), K, V, S) := by
  have m : wX_copyToNewVersion_21 post (nI ((cur + 1) % 41)) o (nI cur) (nI (cur % 41)) K V S := by
    unfold wX_copyToNewVersion_21
    refine mv_X_fc (mv_X_fc ⟨_, mv_X_cpl (K0 := K) (V0 := V) (by omega) (by omega) (by omega) hl.1 hl.2.1 ?_ l.length 0 K V (by omega) (mv_fr_rf _ _) (mv_fr_rf _ _) (fun j hj => by omega)⟩)
    intro K' V' fK fV hj
    rw [nI_1]
    refine hp K' V' _ fK fV (fun j ne => pk_un ne) ⟨pk_us, hl.2.1, mv_rn_sh l _ _ hl.2.2 hj⟩
  unfold wpX_copyToNewVersion
  dsimp only
  rw [nI_1]
  by_cases h : cur % 41 = 40
  · refine br_t (nI_le (a := 41) (by omega) (by omega)) ?_
    rw [show (cur + 1) % 41 = 0 from by omega] at m
    exact m
  · refine br_f (nI_ge (b := 41) (by omega) (by omega)) ?_
    rw [show (cur + 1) % 41 = cur % 41 + 1 from by omega] at m
    exact m
theorem mv_X_inf {post : SX → Prop} {s n : Nat} {o c k v : Int32} {K0 V0 K V S : Nat → Int32} {A B : List mv_P} (hs : s < 41) (hS : S s = nI n) (hn : A.length + B.length = n) (hn' : n < 28) (hA : mv_rn K V (s * 28) A) (hB : mv_rn K V (s * 28 + A.length + 1) B) (fK : mv_fr s K0 K) (fV : mv_fr s V0 V) (hp : ∀ K' V', mv_fr s K0 K' → mv_fr s V0 V' → mv_rn K' V' (s * 28) (A ++ (k, v) :: B) → post (o, c, nI s, K', V', upd S s (nI (n + 1)))) : wX_insertCell_79 post k v (nI (s * 28 + A.length)) o c (nI s) K V S := by
  unfold wX_insertCell_79
  rw [nI_clamp (n := s) (by omega), hS, nI_1, nI_clamp (n := s * 28 + A.length) (by omega)]
  refine ⟨vp_in_nI (by omega) (by omega), nm_e ⟨vp_in_nI (by omega) (by omega), nm_e ⟨vp_in_nI hs (by omega), vp_in_nI hs (by omega), nm_e (hp _ _ (mv_fr_up fK (by omega) (by omega)) (mv_fr_up fV (by omega) (by omega)) ?_)⟩⟩⟩
  refine (mv_rn_ap _ A _).mpr ⟨mv_rn_cg hA (fun j h1 h2 => ⟨pk_un (by omega), pk_un (by omega)⟩), pk_us, pk_us, mv_rn_cg hB (fun j h1 h2 => ⟨pk_un (by omega), pk_un (by omega)⟩)⟩
theorem mv_last {A : List mv_P} {d : Nat} (h : A.length = d + 1) : ∃ A' p, A = A' ++ [p] ∧ A'.length = d := by
  have ne : A ≠ [] := by
    intro z
    rw [z, List.length_nil] at h
    omega
  refine ⟨A.dropLast, A.getLast ne, (List.dropLast_concat_getLast ne).symm, ?_⟩
  rw [List.length_dropLast]
  omega
theorem mv_X_inl {post : SX → Prop} {s n : Nat} {o c k v : Int32} {K0 V0 S : Nat → Int32} {l : List mv_P} (hs : s < 41) (hS : S s = nI n) (hl : l.length = n) (hn' : n < 28) (so : mv_so l) (hk : ∀ p, p ∈ l → p.1 ≠ k) (hp : ∀ K' V' A B, l = A ++ B → (∀ p, p ∈ A → p.1 < k) → (∀ p, p ∈ B → k < p.1) → mv_fr s K0 K' → mv_fr s V0 V' → mv_rn K' V' (s * 28) (A ++ (k, v) :: B) → post (o, c, nI s, K', V', upd S s (nI (n + 1)))) : ∀ (d : Nat) (A B : List mv_P) (K V : Nat → Int32), A.length = d → l = A ++ B → mv_rn K V (s * 28) A → mv_rn K V (s * 28 + d + 1) B → (∀ p, p ∈ B → k < p.1) → mv_fr s K0 K → mv_fr s V0 V → wX_insertCell_22 post k v (nI (s * 28)) o c (nI s) (d + 1) (nI (s * 28 + d)) K V S := by
  intro d
  induction d with
  | zero =>
    intro A B K V hd e hA hB hBk fK fV
    have en : A.length + B.length = n := by rw [← hl, e, List.length_append]
    have eA : A = [] := List.eq_nil_of_length_eq_zero hd
    rw [wX_insertCell_22]
    dsimp only
    rw [← hd]
    rw [← hd] at hB
    refine br_t (nI_le (by omega) (by omega)) (mv_X_inf hs hS en hn' hA hB fK fV (fun K' V' a b r => hp K' V' A B e (fun p hp' => ?_) hBk a b r))
    rw [eA] at hp'
    exact absurd hp' List.not_mem_nil
  | succ d ih =>
    intro A B K V hd e hA hB hBk fK fV
    have en : A.length + B.length = n := by rw [← hl, e, List.length_append]
    obtain ⟨A', p, eA, hd'⟩ := mv_last hd
    have hA2 := hA
    rw [eA] at hA2
    obtain ⟨r1, r2⟩ := (mv_rn_ap _ A' _).mp hA2
    rw [hd'] at r2
    rw [wX_insertCell_22]
    dsimp only
    rw [show s * 28 + (d + 1) = s * 28 + d + 1 from rfl, nI_pred (s * 28 + d), nI_clamp (n := s * 28 + d) (by omega), nI_clamp (n := s * 28 + d + 1) (by omega), r2.1, r2.2.1]
    refine br_f (nI_ge (by omega) (by omega)) ⟨vp_in_nI (by omega) (by omega), br_c (fun a => ?_) (fun a => ⟨vp_in_nI (by omega) (by omega), vp_in_nI (by omega) (by omega), nm_e ⟨vp_in_nI (by omega) (by omega), vp_in_nI (by omega) (by omega), nm_e (nm_r (pk_m1 (s * 28 + d)) ?_)⟩⟩)⟩
    · have hB' : mv_rn K V (s * 28 + A.length + 1) B := by rw [hd]; exact hB
      have r := mv_X_inf (post := post) (o := o) (c := c) (k := k) (v := v) hs hS en hn' hA hB' fK fV (fun K' V' a' b' r' => hp K' V' A B e (fun q hq => ?_) hBk a' b' r')
      · rw [hd] at r
        exact r
      · have pk : p.1 < k := Int32.lt_of_le_of_ne a (hk p (by rw [e, eA]; exact List.mem_append_left _ (List.mem_append_right _ List.mem_cons_self)))
        have so' := so
        rw [e, eA] at so'
        have so2 := (List.pairwise_append.mp (List.pairwise_append.mp so').1).2.2
        rw [eA] at hq
        cases List.mem_append.mp hq with
        | inl z => exact Int32.lt_trans (so2 q z p List.mem_cons_self) pk
        | inr z => rw [List.mem_singleton.mp z]; exact pk
    · refine ih A' (p :: B) _ _ hd' (by rw [e, eA, List.append_assoc]; rfl) (mv_rn_cg r1 (fun j h1 h2 => ⟨pk_un (by omega), pk_un (by omega)⟩)) ⟨pk_us, pk_us, mv_rn_cg hB (fun j h1 h2 => ⟨pk_un (by omega), pk_un (by omega)⟩)⟩ ?_ (mv_fr_up fK (by omega) (by omega)) (mv_fr_up fV (by omega) (by omega))
      intro q hq
      cases List.mem_cons.mp hq with
      | inl z => rw [z]; exact Int32.not_le.mp a
      | inr z => exact hBk q z
theorem mv_X_ins {post : SX → Prop} {s : Nat} {o c k v : Int32} {K V S : Nat → Int32} {l : List mv_P} (hs : s < 41) (hl : mv_ok K V S s l) (hn : l.length < 28) (so : mv_so l) (hk : ∀ p, p ∈ l → p.1 ≠ k) (hp : ∀ K' V' S' A B, l = A ++ B → (∀ p, p ∈ A → p.1 < k) → (∀ p, p ∈ B → k < p.1) → mv_fr s K K' → mv_fr s V V' → (∀ j, j ≠ s → S' j = S j) → mv_ok K' V' S' s (A ++ (k, v) :: B) → post (o, c, nI s, K', V', S')) : wpX_insertCell post (o, c, nI s, K, V, S) k v := by
  unfold wpX_insertCell
  refine mv_X_fc ⟨vp_in_nI hs (by omega), ?_⟩
  rw [nI_clamp (n := s) (by omega), hl.1, nI_add]
  refine nm_e ⟨_, mv_X_inl (K0 := K) (V0 := V) hs hl.1 rfl hn so hk ?_ l.length l [] K V rfl (List.append_nil l).symm hl.2.2 True.intro (fun p hp' => absurd hp' List.not_mem_nil) (mv_fr_rf _ _) (mv_fr_rf _ _)⟩
  intro K' V' A B e hA hB fK fV r
  have en : l.length = A.length + B.length := by rw [e, List.length_append]
  refine hp K' V' _ A B e hA hB fK fV (fun j ne => pk_un ne) ⟨?_, ?_, r⟩
  · rw [pk_us, List.length_append, List.length_cons]
    exact congrArg nI (by omega)
  · rw [List.length_append, List.length_cons]
    omega
theorem mv_X_rep {post : SX → Prop} {s : Nat} {o c k v w : Int32} {K V S : Nat → Int32} {A B : List mv_P} (hs : s < 41) (hl : mv_ok K V S s (A ++ (k, w) :: B)) (hA : ∀ p, p ∈ A → p.1 ≠ k) (hp : ∀ V', mv_fr s V V' → mv_ok K V' S s (A ++ (k, v) :: B) → post (o, c, nI s, K, V', S)) : wpX_replaceValue post (o, c, nI s, K, V, S) k v := by
  unfold wpX_replaceValue
  refine mv_X_cf hs hl ?_
  obtain ⟨h1, h2, h3⟩ := hl
  rw [List.length_append, List.length_cons] at h1 h2
  obtain ⟨r1, r2, r3, r4⟩ := (mv_rn_ap _ A _).mp h3
  rw [mv_fd_ye A _ hA]
  refine br_f (mv_n1 (by omega)) ⟨vp_in_nI (by omega) (by omega), nm_e ?_⟩
  rw [nI_clamp (by omega)]
  refine hp _ (mv_fr_up (mv_fr_rf _ _) (by omega) (by omega)) ⟨?_, ?_, ?_⟩
  · rw [List.length_append, List.length_cons]; exact h1
  · rw [List.length_append, List.length_cons]; exact h2
  · exact (mv_rn_ap _ A _).mpr ⟨mv_rn_cg r1 (fun j a b => ⟨rfl, pk_un (by omega)⟩), r2, pk_us, mv_rn_cg r4 (fun j a b => ⟨rfl, pk_un (by omega)⟩)⟩
theorem mv_X_rml {post : SX → Prop} {s n : Nat} {o c : Int32} {K0 V0 S : Nat → Int32} {l : List mv_P} (hs : s < 41) (hS : S s = nI (n + 1)) (hn : n < 28) (hl : l.length = n) (hp : ∀ K' V', mv_fr s K0 K' → mv_fr s V0 V' → mv_rn K' V' (s * 28) l → post (o, c, nI s, K', V', upd S s (nI n))) : ∀ (t C : List mv_P) (K V : Nat → Int32), l = C ++ t → mv_rn K V (s * 28) C → mv_rn K V (s * 28 + C.length + 1) t → mv_fr s K0 K → mv_fr s V0 V → wX_removeCell_40 post (nI (s * 28 + n)) o c (nI s) (t.length + 1) (nI (s * 28 + C.length)) K V S := by
  intro t
  induction t with
  | nil =>
    intro C K V e hC ht fK fV
    rw [List.append_nil] at e
    have en : C.length = n := by rw [← hl, e]
    rw [wX_removeCell_40]
    dsimp only
    rw [nI_clamp (n := s) (by omega), hS, nI_pred]
    refine br_t (nI_le (by omega) (by omega)) ⟨vp_in_nI hs (by omega), vp_in_nI hs (by omega), nm_e (hp K V fK fV ?_)⟩
    rw [e]
    exact hC
  | cons p t ih =>
    intro C K V e hC ht fK fV
    have en : C.length + t.length + 1 = n := by rw [← hl, e, List.length_append, List.length_cons]; omega
    obtain ⟨r1, r2, r3⟩ := ht
    rw [List.length_cons, wX_removeCell_40]
    dsimp only
    rw [nI_1, nI_clamp (n := s * 28 + C.length) (by omega), nI_clamp (n := s * 28 + C.length + 1) (by omega), r1, r2]
    refine br_f (nI_ge (by omega) (by omega)) ⟨vp_in_nI (by omega) (by omega), vp_in_nI (by omega) (by omega), nm_e ⟨vp_in_nI (by omega) (by omega), vp_in_nI (by omega) (by omega), nm_e (nm_e ?_)⟩⟩
    have r := ih (C ++ [p]) (upd K (s * 28 + C.length) p.1) (upd V (s * 28 + C.length) p.2) (by rw [e, List.append_assoc]; rfl) ((mv_rn_ap _ C _).mpr ⟨mv_rn_cg hC (fun j h1 h2 => ⟨pk_un (by omega), pk_un (by omega)⟩), pk_us, pk_us, True.intro⟩) ?_ (mv_fr_up fK (by omega) (by omega)) (mv_fr_up fV (by omega) (by omega))
    · rw [List.length_append, List.length_singleton] at r
      exact r
    · rw [List.length_append, List.length_singleton]
      exact mv_rn_cg r3 (fun j h1 h2 => ⟨pk_un (by omega), pk_un (by omega)⟩)
theorem mv_X_rem {post : SX → Prop} {s : Nat} {o c k w : Int32} {K V S : Nat → Int32} {A B : List mv_P} (hs : s < 41) (hl : mv_ok K V S s (A ++ (k, w) :: B)) (hA : ∀ p, p ∈ A → p.1 ≠ k) (hp : ∀ K' V' S', mv_fr s K K' → mv_fr s V V' → (∀ j, j ≠ s → S' j = S j) → mv_ok K' V' S' s (A ++ B) → post (o, c, nI s, K', V', S')) : wpX_removeCell post (o, c, nI s, K, V, S) k := by
  unfold wpX_removeCell
  refine mv_X_cf hs hl ?_
  obtain ⟨h1, h2, h3⟩ := hl
  rw [List.length_append, List.length_cons, show A.length + (B.length + 1) = A.length + B.length + 1 from rfl] at h1 h2
  obtain ⟨r1, r2, r3, r4⟩ := (mv_rn_ap _ A _).mp h3
  rw [mv_fd_ye A _ hA]
  refine br_f (mv_n1 (by omega)) (mv_X_fc ⟨vp_in_nI hs (by omega), ?_⟩)
  rw [nI_clamp (n := s) (by omega), h1, nI_add, show s * 28 + (A.length + B.length + 1) = s * 28 + (A.length + B.length) + 1 from rfl, nI_pred]
  refine nm_e ⟨_, mv_X_rml (K0 := K) (V0 := V) (l := A ++ B) hs h1 (by omega) (by rw [List.length_append]) ?_ B A K V rfl r1 r4 (mv_fr_rf _ _) (mv_fr_rf _ _)⟩
  intro K' V' fK fV r
  refine hp K' V' _ fK fV (fun j ne => pk_un ne) ⟨?_, ?_, r⟩
  · rw [pk_us, List.length_append]
  · rw [List.length_append]; omega
