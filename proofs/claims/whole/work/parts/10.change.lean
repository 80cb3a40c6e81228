/-! put, erase, forget -/
theorem mv_new {k old cur : Nat} {kx vx sx ky vy sy kx' vx' sx' ky' vy' sy' : Nat → Int32} {L M : Nat → List mv_P} {l m : List mv_P} (h1 : old ≤ cur) (h2 : cur - old < 40) (h3 : cur ≤ k) (h4 : ∀ w, old ≤ w → w ≤ cur → mv_vr kx vx sx ky vy sy old w (L w) (M w)) (f1 : mv_fr ((cur + 1) % 41) kx kx') (f2 : mv_fr ((cur + 1) % 41) vx vx') (f3 : ∀ j, j ≠ (cur + 1) % 41 → sx' j = sx j) (g1 : mv_fr (cur - old + 1) ky ky') (g2 : mv_fr (cur - old + 1) vy vy') (g3 : ∀ j, j ≠ cur - old + 1 → sy' j = sy j) (hl : mv_ok kx' vx' sx' ((cur + 1) % 41) l) (hm : mv_ok ky' vy' sy' (cur - old + 1) m) (p : l.Perm m) (so : mv_so l) (kr : mv_kr l) : i_Rel (k + 5) (nI old, nI (cur + 1), nI ((cur + 1) % 41), kx', vx', sx') (nI old, nI (cur + 1), ky', vy', sy') := by
  refine ⟨old, cur + 1, kx', vx', sx', ky', vy', sy', fun w => if w = cur + 1 then l else L w, fun w => if w = cur + 1 then m else M w, rfl, rfl, by omega, by omega, by omega, ?_⟩
  intro w w1 w2
  dsimp only
  by_cases e : w = cur + 1
  · rw [if_pos e, if_pos e]
    subst e
    refine ⟨hl, ?_, p, so, kr⟩
    rw [show cur + 1 - old = cur - old + 1 from by omega]
    exact hm
  · rw [if_neg e, if_neg e]
    obtain ⟨a1, a2, a3, a4, a5⟩ := h4 w w1 (by omega)
    exact ⟨mv_ok_fr a1 f1 f2 f3 (by omega), mv_ok_fr a2 g1 g2 g3 (by omega), a3, a4, a5⟩
theorem mv_X_hf {post : Int32 → Prop} {old cur : Nat} {cs : Int32} {K V S : Nat → Int32} (hc : cur < 2 ^ 30) (h0 : old ≤ cur) (h : cur - old < 40 → post 0) (h' : ¬ cur - old < 40 → post 1) : wpX_isHistoryFull post (nI old, nI cur, cs, K, V, S) := by
  unfold wpX_isHistoryFull
  dsimp only
  rw [pk_sub h0]
  exact pk_lt (cur - old) 40 h (fun z => h' (by omega))
theorem mv_pn {A B m : List mv_P} {q : mv_P} (p : (A ++ B).Perm m) : (A ++ q :: B).Perm (m ++ [q]) := List.perm_middle.trans ((p.cons q).trans (List.perm_append_singleton q m).symm)
theorem mv_pp {A B A' B' : List mv_P} {k w w' : Int32} (p : (A ++ (k, w) :: B).Perm (A' ++ (k, w') :: B')) (h : mv_kd (A ++ (k, w) :: B)) : (A ++ B).Perm (A' ++ B') := by
  have e1 := (mv_lk_mem h).mpr (List.mem_append_right A List.mem_cons_self)
  have e2 := (mv_lk_mem h).mpr (p.mem_iff.mpr (List.mem_append_right A' List.mem_cons_self))
  rw [e1] at e2
  have e3 := Option.some.inj e2
  subst e3
  exact List.Perm.cons_inv (List.perm_middle.symm.trans (p.trans List.perm_middle))
theorem mv_so_in {A B : List mv_P} {k v : Int32} (h : mv_so (A ++ B)) (hA : ∀ p, p ∈ A → p.1 < k) (hB : ∀ p, p ∈ B → k < p.1) : mv_so (A ++ (k, v) :: B) := by
  obtain ⟨h1, h2, h3⟩ := List.pairwise_append.mp h
  refine List.pairwise_append.mpr ⟨h1, List.pairwise_cons.mpr ⟨fun q hq => hB q hq, h2⟩, ?_⟩
  intro a ha b hb
  cases List.mem_cons.mp hb with
  | inl z => rw [z]; exact hA a ha
  | inr z => exact h3 a ha b z
theorem mv_so_re {A B : List mv_P} {k w : Int32} (v : Int32) (h : mv_so (A ++ (k, w) :: B)) : mv_so (A ++ (k, v) :: B) := by
  obtain ⟨h1, h2, h3⟩ := List.pairwise_append.mp h
  obtain ⟨h4, h5⟩ := List.pairwise_cons.mp h2
  refine List.pairwise_append.mpr ⟨h1, List.pairwise_cons.mpr ⟨fun q hq => h4 q hq, h5⟩, ?_⟩
  intro a ha b hb
  cases List.mem_cons.mp hb with
  | inl z => rw [z]; exact h3 a ha (k, w) List.mem_cons_self
  | inr z => exact h3 a ha b (List.mem_cons_of_mem _ z)
theorem mv_so_rm {A B : List mv_P} {q : mv_P} (h : mv_so (A ++ q :: B)) : mv_so (A ++ B) := by
  obtain ⟨h1, h2, h3⟩ := List.pairwise_append.mp h
  exact List.pairwise_append.mpr ⟨h1, (List.pairwise_cons.mp h2).2, fun a ha b hb => h3 a ha b (List.mem_cons_of_mem _ hb)⟩
theorem mv_kr_in {A B : List mv_P} {k v : Int32} (h : mv_kr (A ++ B)) (hk : k ≤ 1000) : mv_kr (A ++ (k, v) :: B) := by
  intro p hp
  cases List.mem_append.mp hp with
  | inl z => exact h p (List.mem_append_left _ z)
  | inr z =>
    cases List.mem_cons.mp z with
    | inl y => rw [y]; exact hk
    | inr y => exact h p (List.mem_append_right _ y)
theorem mv_kr_rm {A B : List mv_P} {q : mv_P} (h : mv_kr (A ++ q :: B)) : mv_kr (A ++ B) := by
  intro p hp
  cases List.mem_append.mp hp with
  | inl z => exact h p (List.mem_append_left _ z)
  | inr z => exact h p (List.mem_append_right _ (List.mem_cons_of_mem _ z))
theorem mv_no_pm {l m : List mv_P} {k : Int32} (p : l.Perm m) (h : ∀ q, q ∈ l → q.1 ≠ k) : ∀ q, q ∈ m → q.1 ≠ k := fun q hq => h q (p.mem_iff.mpr hq)
theorem mv_ye_pm {m A B : List mv_P} {k w : Int32} (p : (A ++ (k, w) :: B).Perm m) : ∃ A' w' B', m = A' ++ (k, w') :: B' ∧ ∀ q, q ∈ A' → q.1 ≠ k := by
  cases mv_cs k m with
  | inl n => exact absurd rfl (n (k, w) (p.mem_iff.mp (List.mem_append_right A List.mem_cons_self)))
  | inr y => exact y
theorem i_vc_forget {k : Nat} {u : SX} {v : SY} (I : i_Rel k u v) (hk : k + 5 ≤ 2560) (v1 : Int32) : wpX_forget (fun r u' => wpY_forget (fun r' v' => r' = r ∧ i_Rel (k + 5) u' v') v v1) u v1 := by
  have J := i_up I
  obtain ⟨old, cur, kx, vx, sx, ky, vy, sy, L, M, rfl, rfl, h1, h2, h3, h4⟩ := I
  cases mv_kc v1 (old := old) (cur := cur) (by omega) (by omega) with
  | inl n =>
    unfold wpX_forget wpY_forget
    exact mv_X_kf n (br_t rfl (mv_Y_kf n (br_t rfl ⟨rfl, J⟩)))
  | inr y =>
    obtain ⟨w, w1, w2, rfl⟩ := y
    unfold wpX_forget
    dsimp only
    refine mv_X_kt (by omega) w1 w2 (br_f (by decide) ?_)
    rw [pk_sub w2]
    refine mv_Y_fo (M := M) (by omega) w1 w2 h2 (fun y a b => (h4 y a b).2.1) ?_
    intro K V S h
    refine ⟨rfl, w, cur, kx, vx, sx, K, V, S, L, M, rfl, rfl, w2, by omega, by omega, ?_⟩
    intro y y1 y2
    obtain ⟨a1, a2, a3, a4, a5⟩ := h4 y (by omega) y2
    exact ⟨a1, h y y1 y2, a3, a4, a5⟩
theorem i_vc_erase {k : Nat} {u : SX} {v : SY} (I : i_Rel k u v) (hk : k + 5 ≤ 2560) (v1 : Int32) : wpX_erase (fun r u' => wpY_erase (fun r' v' => r' = r ∧ i_Rel (k + 5) u' v') v v1) u v1 := by
  have J := i_up I
  obtain ⟨old, cur, kx, vx, sx, ky, vy, sy, L, M, rfl, rfl, h1, h2, h3, h4⟩ := I
  obtain ⟨a1, a2, a3, a4, a5⟩ := h4 cur h1 (by omega)
  unfold wpX_erase
  dsimp only
  refine mv_X_key (fun b => br_t rfl ?_) (fun b => br_f (by decide) (mv_X_cf (by omega) a1 ?_))
  · unfold wpY_erase
    dsimp only
    exact mv_Y_bk (fun _ => br_f (by decide) ⟨rfl, J⟩) (fun z => absurd z b)
  · cases mv_cs v1 (L cur) with
    | inl n =>
      rw [mv_fd_no _ _ n]
      refine br_t rfl ?_
      unfold wpY_erase
      dsimp only
      refine mv_Y_bk (fun z => absurd b z) (fun _ => br_t rfl (nm_r (pk_sub h1) (mv_Y_ff (by omega) a2 ?_)))
      rw [mv_fd_no _ _ (mv_no_pm a3 n)]
      exact br_f (by decide) ⟨rfl, J⟩
    | inr y =>
      obtain ⟨A, w, B, e, hA⟩ := y
      rw [e] at a1 a3 a4 a5
      have hl := a1.2.1
      rw [List.length_append, List.length_cons] at hl
      obtain ⟨A', w', B', e', hA'⟩ := mv_ye_pm a3
      rw [e'] at a2 a3
      have hl' := a2.2.1
      rw [List.length_append, List.length_cons] at hl'
      rw [e, mv_fd_ye A _ hA]
      refine br_f (mv_n1 (by omega)) (mv_X_hf (by omega) h1 (fun c => br_t rfl ?_) (fun c => br_f (by decide) ?_))
      · refine mv_X_cp a1 ?_
        intro K V S f1 f2 f3 h5
        refine mv_X_rem (by omega) h5 hA ?_
        intro K' V' S' f4 f5 f6 h6
        refine mv_Y_er b h1 c a2 hA' ?_
        intro K2 V2 S2 m' g1 g2 g3 h7 p
        exact ⟨rfl, mv_new h1 c h3 h4 (mv_fr_tr f1 f4) (mv_fr_tr f2 f5) (fun j ne => (f6 j ne).trans (f3 j ne)) g1 g2 g3 h6 h7 ((mv_pp a3 (mv_so_kd a4)).trans p) (mv_so_rm a4) (mv_kr_rm a5)⟩
      · unfold wpY_erase
        dsimp only
        refine mv_Y_bk (fun z => absurd b z) (fun _ => br_t rfl (nm_r (pk_sub h1) (mv_Y_ff (by omega) a2 ?_)))
        rw [mv_fd_ye A' _ hA']
        exact br_t (nI_pos' (by omega)) (br_f (nI_nlt (b := 40) (by omega) (by omega)) ⟨rfl, J⟩)
theorem i_vc_put {k : Nat} {u : SX} {v : SY} (I : i_Rel k u v) (hk : k + 5 ≤ 2560) (v1 : Int32) (v2 : Int32) : wpX_put (fun r u' => wpY_put (fun r' v' => r' = r ∧ i_Rel (k + 5) u' v') v v1 v2) u v1 v2 := by
  have J := i_up I
  obtain ⟨old, cur, kx, vx, sx, ky, vy, sy, L, M, rfl, rfl, h1, h2, h3, h4⟩ := I
  obtain ⟨a1, a2, a3, a4, a5⟩ := h4 cur h1 (by omega)
  have len := a3.length_eq
  have ll := a1.2.1
  unfold wpX_put
  dsimp only
  refine mv_X_key (fun b => br_t rfl ?_) (fun b => br_f (by decide) (mv_X_hf (by omega) h1 (fun c => br_t rfl (mv_X_cf (by omega) a1 ?_)) (fun c => br_f (by decide) ?_)))
  · unfold wpY_put
    dsimp only
    exact mv_Y_bk (fun _ => br_f (by decide) ⟨rfl, J⟩) (fun z => absurd z b)
  · cases mv_cs v1 (L cur) with
    | inl n =>
      have n' := mv_no_pm a3 n
      rw [mv_fd_no _ _ n]
      refine br_t rfl ?_
      unfold wX_put_38
      rw [nI_clamp (n := cur % 41) (by omega), a1.1]
      refine br_f (by decide) ⟨vp_in_nI (by omega) (by omega), pk_lt (L cur).length 28 (fun d => ?_) (fun d => ?_)⟩
      · unfold wX_put_60
        refine mv_X_cp a1 ?_
        intro K V S f1 f2 f3 h5
        refine br_f (by decide) (mv_X_ins (by omega) h5 d a4 n ?_)
        intro K' V' S' A B e hA hB f4 f5 f6 h6
        unfold wpY_put
        dsimp only
        refine mv_Y_bk (fun z => absurd b z) (fun _ => br_t rfl (nm_r (pk_sub h1) (br_t (nI_lt (b := 40) (by omega) (by omega)) (mv_Y_ff (by omega) a2 ?_))))
        rw [mv_fd_no _ _ n', nI_clamp (n := cur - old) (by omega), a2.1]
        refine br_f (by decide) ⟨vp_in_nI (by omega) (by omega), pk_eq (M cur).length 28 (fun z => ?_) (fun _ => mv_Y_put c a2 (fun _ => by omega) ?_)⟩
        · omega
        · intro K2 V2 S2 m' g1 g2 g3 h7 q
          rw [e] at a3 a4 a5
          have pm : (A ++ (v1, v2) :: B).Perm m' := by
            cases q with
            | inl q => rw [q.2]; exact mv_pn a3
            | inr q =>
              obtain ⟨A', w, B', q1, q2⟩ := q
              exact absurd rfl (n' (v1, w) (by rw [q1]; exact List.mem_append_right _ List.mem_cons_self))
          exact ⟨rfl, mv_new h1 c h3 h4 (mv_fr_tr f1 f4) (mv_fr_tr f2 f5) (fun j ne => (f6 j ne).trans (f3 j ne)) g1 g2 g3 h6 h7 pm (mv_so_in a4 hA hB) (mv_kr_in a5 (Int32.not_lt.mp b.2))⟩
      · unfold wpY_put
        dsimp only
        refine mv_Y_bk (fun z => absurd b z) (fun _ => br_t rfl (nm_r (pk_sub h1) (br_t (nI_lt (b := 40) (by omega) (by omega)) (mv_Y_ff (by omega) a2 ?_))))
        rw [mv_fd_no _ _ n', nI_clamp (n := cur - old) (by omega), a2.1]
        exact br_f (by decide) ⟨vp_in_nI (by omega) (by omega), pk_eq (M cur).length 28 (fun _ => ⟨rfl, J⟩) (fun z => by omega)⟩
    | inr y =>
      obtain ⟨A, w, B, e, hA⟩ := y
      rw [e] at a1 a3 a4 a5
      have hl := a1.2.1
      rw [List.length_append, List.length_cons] at hl
      obtain ⟨A', w', B', e', hA'⟩ := mv_ye_pm a3
      rw [e'] at a2
      have hl' := a2.2.1
      rw [List.length_append, List.length_cons] at hl'
      rw [e, mv_fd_ye A _ hA]
      refine br_f (mv_n1 (by omega)) ?_
      unfold wX_put_38
      refine br_t rfl ?_
      unfold wX_put_60
      refine mv_X_cp a1 ?_
      intro K V S f1 f2 f3 h5
      refine br_t rfl (mv_X_rep (v := v2) (by omega) h5 hA ?_)
      intro V' f5 h6
      unfold wpY_put
      dsimp only
      refine mv_Y_bk (fun z => absurd b z) (fun _ => br_t rfl (nm_r (pk_sub h1) (br_t (nI_lt (b := 40) (by omega) (by omega)) (mv_Y_ff (by omega) a2 ?_))))
      rw [mv_fd_ye A' _ hA']
      refine br_t (nI_pos' (by omega)) (mv_Y_put c a2 (fun z => absurd rfl (z (v1, w') (List.mem_append_right _ List.mem_cons_self))) ?_)
      intro K2 V2 S2 m' g1 g2 g3 h7 q
      have pm : (A ++ (v1, v2) :: B).Perm m' := by
        cases q with
        | inl q => exact absurd rfl (q.1 (v1, w') (List.mem_append_right _ List.mem_cons_self))
        | inr q =>
          obtain ⟨A2, w2, B2, q1, q2⟩ := q
          rw [e', q1] at a3
          rw [q2]
          exact List.perm_middle.trans (((mv_pp a3 (mv_so_kd a4)).cons (v1, v2)).trans List.perm_middle.symm)
      exact ⟨rfl, mv_new h1 c h3 h4 f1 (mv_fr_tr f2 f5) f3 g1 g2 g3 h6 h7 pm (mv_so_re v2 a4) (mv_kr_in (mv_kr_rm a5) (Int32.not_lt.mp b.2))⟩
  · unfold wpY_put
    dsimp only
    exact mv_Y_bk (fun z => absurd b z) (fun _ => br_t rfl (nm_r (pk_sub h1) (br_f (nI_nlt (b := 40) (by omega) (by omega)) ⟨rfl, J⟩)))
