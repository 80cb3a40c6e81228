/-! the relation: each kept version is a sorted list in X's ring (slot: the version modulo 41) and the same pairs in any order in Y (slot: the version less the oldest) -/
def mv_vr (kx vx sx ky vy sy : Nat → Int32) (old w : Nat) (l m : List mv_P) : Prop :=
  mv_ok kx vx sx (w % 41) l ∧ mv_ok ky vy sy (w - old) m ∧ l.Perm m ∧ mv_so l ∧ mv_kr l
def i_Rel (k : Nat) (u : SX) (v : SY) : Prop := ∃ (old cur : Nat) (kx vx sx ky vy sy : Nat → Int32) (L M : Nat → List mv_P),
  u = (nI old, nI cur, nI (cur % 41), kx, vx, sx) ∧ v = (nI old, nI cur, ky, vy, sy) ∧ old ≤ cur ∧ cur ≤ old + 40 ∧ cur ≤ k ∧
  ∀ w, old ≤ w → w ≤ cur → mv_vr kx vx sx ky vy sy old w (L w) (M w)
theorem i_up {k : Nat} {u : SX} {v : SY} (h : i_Rel k u v) : i_Rel (k + 5) u v := by
  obtain ⟨old, cur, kx, vx, sx, ky, vy, sy, L, M, e1, e2, h1, h2, h3, h4⟩ := h
  exact ⟨old, cur, kx, vx, sx, ky, vy, sy, L, M, e1, e2, h1, h2, by omega, h4⟩
theorem i_vc0 : wpX_init (fun u => wpY_init (fun v => i_Rel 0 u v)) := by
  unfold wpX_init wpY_init
  refine ⟨0, 0, fun _ => 0, fun _ => 0, fun _ => 0, fun _ => 0, fun _ => 0, fun _ => 0, fun _ => [], fun _ => [], rfl, rfl, by omega, by omega, by omega, ?_⟩
  intro w _ _
  exact ⟨⟨rfl, Nat.zero_le 28, True.intro⟩, ⟨rfl, Nat.zero_le 28, True.intro⟩, List.Perm.refl _, List.Pairwise.nil, fun p hp => absurd hp List.not_mem_nil⟩
theorem i_vc_current {k : Nat} {u : SX} {v : SY} (I : i_Rel k u v) (hk : k + 5 ≤ 2560) : wpX_current (fun r => wpY_current (fun r' => r' = r ∧ i_Rel (k + 5) u v) v) u := by
  have J := i_up I
  obtain ⟨old, cur, kx, vx, sx, ky, vy, sy, L, M, rfl, rfl, h1, h2, h3, h4⟩ := I
  unfold wpX_current wpY_current
  exact ⟨rfl, J⟩
theorem i_vc_oldest {k : Nat} {u : SX} {v : SY} (I : i_Rel k u v) (hk : k + 5 ≤ 2560) : wpX_oldest (fun r => wpY_oldest (fun r' => r' = r ∧ i_Rel (k + 5) u v) v) u := by
  have J := i_up I
  obtain ⟨old, cur, kx, vx, sx, ky, vy, sy, L, M, rfl, rfl, h1, h2, h3, h4⟩ := I
  unfold wpX_oldest wpY_oldest
  exact ⟨rfl, J⟩
theorem i_vc_has {k : Nat} {u : SX} {v : SY} (I : i_Rel k u v) (hk : k + 5 ≤ 2560) (v1 : Int32) (v2 : Int32) : wpX_has (fun r => wpY_has (fun r' => r' = r ∧ i_Rel (k + 5) u v) v v1 v2) u v1 v2 := by
  have J := i_up I
  obtain ⟨old, cur, kx, vx, sx, ky, vy, sy, L, M, rfl, rfl, h1, h2, h3, h4⟩ := I
  cases mv_kc v2 (old := old) (cur := cur) (by omega) (by omega) with
  | inl n =>
    unfold wpX_has
    exact mv_X_kf n (br_t rfl (mv_Y_has0 n ⟨rfl, J⟩))
  | inr y =>
    obtain ⟨w, w1, w2, rfl⟩ := y
    obtain ⟨a1, a2, a3, a4, a5⟩ := h4 w w1 w2
    refine mv_X_has (by omega) w1 w2 h2 a1 (mv_Y_has (by omega) w1 w2 h2 a2 ⟨?_, J⟩)
    rw [mv_lk_pm v1 a3 (mv_so_kd a4)]
theorem i_vc_get {k : Nat} {u : SX} {v : SY} (I : i_Rel k u v) (hk : k + 5 ≤ 2560) (v1 : Int32) (v2 : Int32) : wpX_get (fun r => wpY_get (fun r' => r' = r ∧ i_Rel (k + 5) u v) v v1 v2) u v1 v2 := by
  have J := i_up I
  obtain ⟨old, cur, kx, vx, sx, ky, vy, sy, L, M, rfl, rfl, h1, h2, h3, h4⟩ := I
  cases mv_kc v2 (old := old) (cur := cur) (by omega) (by omega) with
  | inl n =>
    unfold wpX_get
    exact mv_X_kf n (br_t rfl (mv_Y_get0 n ⟨rfl, J⟩))
  | inr y =>
    obtain ⟨w, w1, w2, rfl⟩ := y
    obtain ⟨a1, a2, a3, a4, a5⟩ := h4 w w1 w2
    refine mv_X_get (by omega) w1 w2 h2 a1 (mv_Y_get (by omega) w1 w2 h2 a2 ⟨?_, J⟩)
    rw [mv_lk_pm v1 a3 (mv_so_kd a4)]
theorem i_vc_count {k : Nat} {u : SX} {v : SY} (I : i_Rel k u v) (hk : k + 5 ≤ 2560) (v1 : Int32) (v2 : Int32) (v3 : Int32) : wpX_count (fun r => wpY_count (fun r' => r' = r ∧ i_Rel (k + 5) u v) v v1 v2 v3) u v1 v2 v3 := by
  have J := i_up I
  obtain ⟨old, cur, kx, vx, sx, ky, vy, sy, L, M, rfl, rfl, h1, h2, h3, h4⟩ := I
  cases mv_kc v3 (old := old) (cur := cur) (by omega) (by omega) with
  | inl n =>
    unfold wpX_count wpY_count
    exact mv_X_kf n (br_t rfl (mv_Y_kf n (br_t rfl ⟨rfl, J⟩)))
  | inr y =>
    obtain ⟨w, w1, w2, rfl⟩ := y
    obtain ⟨a1, a2, a3, a4, a5⟩ := h4 w w1 w2
    exact mv_X_cnt (by omega) w1 w2 h2 a1 (mv_Y_cnt (by omega) w1 w2 h2 a2 ⟨(mv_sm_pm _ a3).symm, J⟩)
theorem i_vc_sum {k : Nat} {u : SX} {v : SY} (I : i_Rel k u v) (hk : k + 5 ≤ 2560) (v1 : Int32) (v2 : Int32) (v3 : Int32) : wpX_sum (fun r => wpY_sum (fun r' => r' = r ∧ i_Rel (k + 5) u v) v v1 v2 v3) u v1 v2 v3 := by
  have J := i_up I
  obtain ⟨old, cur, kx, vx, sx, ky, vy, sy, L, M, rfl, rfl, h1, h2, h3, h4⟩ := I
  cases mv_kc v3 (old := old) (cur := cur) (by omega) (by omega) with
  | inl n =>
    unfold wpX_sum wpY_sum
    exact mv_X_kf n (br_t rfl (mv_Y_kf n (br_t rfl ⟨rfl, J⟩)))
  | inr y =>
    obtain ⟨w, w1, w2, rfl⟩ := y
    obtain ⟨a1, a2, a3, a4, a5⟩ := h4 w w1 w2
    exact mv_X_sum (by omega) w1 w2 h2 a1 (mv_Y_sum (by omega) w1 w2 h2 a2 ⟨(mv_sm_pm _ a3).symm, J⟩)
theorem i_vc_next {k : Nat} {u : SX} {v : SY} (I : i_Rel k u v) (hk : k + 5 ≤ 2560) (v1 : Int32) (v2 : Int32) : wpX_next (fun r => wpY_next (fun r' => r' = r ∧ i_Rel (k + 5) u v) v v1 v2) u v1 v2 := by
  have J := i_up I
  obtain ⟨old, cur, kx, vx, sx, ky, vy, sy, L, M, rfl, rfl, h1, h2, h3, h4⟩ := I
  cases mv_kc v2 (old := old) (cur := cur) (by omega) (by omega) with
  | inl n =>
    unfold wpX_next wpY_next
    exact mv_X_kf n (br_t rfl (mv_Y_kf n (br_t rfl ⟨rfl, J⟩)))
  | inr y =>
    obtain ⟨w, w1, w2, rfl⟩ := y
    obtain ⟨a1, a2, a3, a4, a5⟩ := h4 w w1 w2
    exact mv_X_next (by omega) w1 w2 h2 a1 (mv_Y_next (by omega) w1 w2 h2 a2 ⟨mv_nxt v1 a3 a4 a5, J⟩)
theorem i_vc_keyAt {k : Nat} {u : SX} {v : SY} (I : i_Rel k u v) (hk : k + 5 ≤ 2560) (v1 : Int32) (v2 : Int32) : wpX_keyAt (fun r => wpY_keyAt (fun r' => r' = r ∧ i_Rel (k + 5) u v) v v1 v2) u v1 v2 := by
  have J := i_up I
  obtain ⟨old, cur, kx, vx, sx, ky, vy, sy, L, M, rfl, rfl, h1, h2, h3, h4⟩ := I
  cases mv_kc v2 (old := old) (cur := cur) (by omega) (by omega) with
  | inl n =>
    unfold wpX_keyAt wpY_keyAt
    exact mv_X_kf n (br_t rfl (mv_Y_kf n (br_t rfl ⟨rfl, J⟩)))
  | inr y =>
    obtain ⟨w, w1, w2, rfl⟩ := y
    obtain ⟨a1, a2, a3, a4, a5⟩ := h4 w w1 w2
    exact mv_X_kat (by omega) w1 w2 h2 a1 (fun z => mv_Y_kat (by omega) w1 w2 h2 a2 ⟨mv_ka0 a3 a4 z, J⟩) (fun A p B e z => mv_Y_kat (by omega) w1 w2 h2 a2 ⟨mv_ka1 a3 a4 a1.2.1 e z, J⟩)
theorem i_vc_differ {k : Nat} {u : SX} {v : SY} (I : i_Rel k u v) (hk : k + 5 ≤ 2560) (v1 : Int32) (v2 : Int32) (v3 : Int32) (v4 : Int32) : wpX_differ (fun r => wpY_differ (fun r' => r' = r ∧ i_Rel (k + 5) u v) v v1 v2 v3 v4) u v1 v2 v3 v4 := by
  have J := i_up I
  obtain ⟨old, cur, kx, vx, sx, ky, vy, sy, L, M, rfl, rfl, h1, h2, h3, h4⟩ := I
  cases mv_kc v3 (old := old) (cur := cur) (by omega) (by omega) with
  | inl n =>
    unfold wpX_differ wpY_differ
    exact mv_X_kf n (br_t rfl (mv_Y_kf n (br_t rfl ⟨rfl, J⟩)))
  | inr y =>
    obtain ⟨w, w1, w2, rfl⟩ := y
    cases mv_kc v4 (old := old) (cur := cur) (by omega) (by omega) with
    | inl n =>
      unfold wpX_differ wpY_differ
      exact mv_X_kt (by omega) w1 w2 (br_f (by decide) (mv_X_kf n (br_t rfl (mv_Y_kt (by omega) w1 w2 (br_f (by decide) (mv_Y_kf n (br_t rfl ⟨rfl, J⟩)))))))
    | inr y =>
      obtain ⟨z, z1, z2, rfl⟩ := y
      obtain ⟨a1, a2, a3, a4, a5⟩ := h4 w w1 w2
      obtain ⟨b1, b2, b3, b4, b5⟩ := h4 z z1 z2
      exact mv_X_di (by omega) w1 w2 z1 z2 h2 a1 b1 (mv_Y_di (by omega) w1 w2 z1 z2 h2 a2 b2 ⟨mv_di v1 v2 (mv_so_kd a4) (mv_so_kd b4) a3 b3, J⟩)
theorem i_vc_since {k : Nat} {u : SX} {v : SY} (I : i_Rel k u v) (hk : k + 5 ≤ 2560) (v1 : Int32) : wpX_since (fun r => wpY_since (fun r' => r' = r ∧ i_Rel (k + 5) u v) v v1) u v1 := by
  have J := i_up I
  obtain ⟨old, cur, kx, vx, sx, ky, vy, sy, L, M, rfl, rfl, h1, h2, h3, h4⟩ := I
  have hl : ∀ w, old ≤ w → w ≤ cur → mv_lk v1 (L w) = mv_lk v1 (M w) := fun w a b => mv_lk_pm v1 (h4 w a b).2.2.1 (mv_so_kd (h4 w a b).2.2.2.1)
  obtain ⟨a1, a2, a3, a4, a5⟩ := h4 cur h1 (by omega)
  cases e : mv_lk v1 (L cur) with
  | none =>
    refine mv_X_si0 a1 e (mv_Y_si0 (by omega) h1 h2 a2 ?_ ⟨rfl, J⟩)
    rw [← hl cur h1 (by omega)]
    exact e
  | some x =>
    obtain ⟨a, q1, q2, q3⟩ := mv_far (fun j => mv_lk v1 (L (cur - j)) = some x) (cur - old)
    refine mv_X_si1 (L := L) (by omega) h1 h2 (fun w a b => (h4 w a b).1) e q1 q2 q3 (mv_Y_si1 (L := M) (v := x) (by omega) h1 h2 (fun w a b => (h4 w a b).2.1) ?_ q1 (fun j hj => ?_) ?_ ⟨rfl, J⟩)
    · rw [← hl cur h1 (by omega)]
      exact e
    · rw [← hl _ (by omega) (by omega)]
      exact q2 j hj
    · cases q3 with
      | inl z => exact Or.inl z
      | inr z =>
        by_cases t : a = cur - old
        · exact Or.inl t
        · refine Or.inr ?_
          rw [← hl _ (by omega) (by omega)]
          exact z
