/-! the statements owed for the methods with loops -/
theorem qs_Iw {k : Nat} {u : SX} {A M : Nat → Int32} (I : i_Rel k u (A, M)) {t : Nat} (ht : t < 4) : qs_row A t (qs_b (u (nI t).toNatClampNeg)) := by
  rw [qs_c4 ht]
  exact I t ht
theorem i_vc_degree {k : Nat} {u : SX} {v : SY} (I : i_Rel k u v) (hk : k + 5 ≤ 2560) (v1 : Int32) : wpX_degree (fun r => wpY_degree (fun r' => r' = r ∧ i_Rel (k + 5) u v) v v1) u v1 := by
  obtain ⟨A, M⟩ := v
  unfold wpX_degree wpY_degree
  dsimp only
  rcases qs_tab v1 with ⟨t, ht, rfl⟩ | ⟨bX, bY⟩
  · obtain ⟨r, hX, hY⟩ := qs_degL u A M ht (qs_Iw I ht) 64 0 0 rfl (by decide)
    exact qs_xT ht _ (br_f qs_10 ⟨65, hX _ (qs_yT _ ht _ (br_f qs_10 ⟨65, hY _ ⟨rfl, I⟩⟩))⟩)
  · exact bX _ (br_t rfl (bY _ _ (br_t rfl ⟨rfl, I⟩)))
theorem i_vc_distance {k : Nat} {u : SX} {v : SY} (I : i_Rel k u v) (hk : k + 5 ≤ 2560) (v1 : Int32) : wpX_distance (fun r => wpY_distance (fun r' => r' = r ∧ i_Rel (k + 5) u v) v v1) u v1 := by
  obtain ⟨A, M⟩ := v
  unfold wpX_distance wpY_distance
  dsimp only
  rcases qs_tab v1 with ⟨t, ht, rfl⟩ | ⟨bX, bY⟩
  · have hb : qs_best (qs_ch (qs_b (u (nI t).toNatClampNeg))) 64 < 64 := by
      have := qs_best_lt (qs_ch (qs_b (u (nI t).toNatClampNeg))) 64
      omega
    exact qs_xT ht _ (br_f qs_10 ⟨qs_i4 ht, qs_xNear _ _ ⟨qs_i4 ht, qs_xChange _ hb _ (qs_yT _ ht _ (br_f qs_10 ⟨65, qs_yDistL A M ht (qs_Iw I ht) _ ⟨rfl, I⟩ 64 0 rfl⟩))⟩⟩)
  · exact bX _ (br_t rfl (bY _ _ (br_t rfl ⟨rfl, I⟩)))
theorem i_vc_nearest {k : Nat} {u : SX} {v : SY} (I : i_Rel k u v) (hk : k + 5 ≤ 2560) (v1 : Int32) : wpX_nearest (fun r => wpY_nearest (fun r' => r' = r ∧ i_Rel (k + 5) u v) v v1) u v1 := by
  obtain ⟨A, M⟩ := v
  unfold wpX_nearest wpY_nearest
  dsimp only
  rcases qs_tab v1 with ⟨t, ht, rfl⟩ | ⟨bX, bY⟩
  · refine qs_xT ht _ (br_f qs_10 ⟨qs_i4 ht, qs_xNear _ _ (qs_yT _ ht _ (br_f qs_10 ⟨64, ?_⟩))⟩)
    have H := qs_yNearL A M ht (qs_Iw I ht) (fun r' => r' = nI (qs_best (qs_ch (qs_b (u (nI t).toNatClampNeg))) 64) ∧ i_Rel (k + 5) u (A, M)) ⟨rfl, I⟩ 63 1 rfl
    have e : qs_best (qs_ch (qs_b (u (nI t).toNatClampNeg))) 1 = 0 := if_neg (Nat.lt_irrefl _)
    rw [e] at H
    exact H
  · exact bX _ (br_t rfl (bY _ _ (br_t rfl ⟨rfl, I⟩)))
theorem i_vc_immunity {k : Nat} {u : SX} {v : SY} (I : i_Rel k u v) (hk : k + 5 ≤ 2560) (v1 : Int32) : wpX_immunity (fun r => wpY_immunity (fun r' => r' = r ∧ i_Rel (k + 5) u v) v v1) u v1 := by
  obtain ⟨A, M⟩ := v
  unfold wpX_immunity wpY_immunity
  dsimp only
  rcases qs_tab v1 with ⟨t, ht, rfl⟩ | ⟨bX, bY⟩
  · obtain ⟨r, hX, hY⟩ := qs_immL u A M ht (qs_Iw I ht) 63 1 7 rfl (by decide) (by decide) (by decide)
    exact qs_xT ht _ (br_f qs_10 ⟨64, hX _ (qs_yT _ ht _ (br_f qs_10 ⟨64, hY _ ⟨rfl, I⟩⟩))⟩)
  · exact bX _ (br_t rfl (bY _ _ (br_t rfl ⟨rfl, I⟩)))
theorem i_vc_variables {k : Nat} {u : SX} {v : SY} (I : i_Rel k u v) (hk : k + 5 ≤ 2560) (v1 : Int32) : wpX_variables (fun r => wpY_variables (fun r' => r' = r ∧ i_Rel (k + 5) u v) v v1) u v1 := by
  obtain ⟨A, M⟩ := v
  unfold wpX_variables wpY_variables
  dsimp only
  rcases qs_tab v1 with ⟨t, ht, rfl⟩ | ⟨bX, bY⟩
  · obtain ⟨r, hX, hY⟩ := qs_varL u A M ht (qs_Iw I ht) 6 0 0 rfl
    exact qs_xT ht _ (br_f qs_10 ⟨7, hX _ (qs_yT _ ht _ (br_f qs_10 ⟨7, hY _ ⟨rfl, I⟩⟩))⟩)
  · exact bX _ (br_t rfl (bY _ _ (br_t rfl ⟨rfl, I⟩)))
theorem i_vc_structures {k : Nat} {u : SX} {v : SY} (I : i_Rel k u v) (hk : k + 5 ≤ 2560) (v1 : Int32) : wpX_structures (fun r => wpY_structures (fun r' => r' = r ∧ i_Rel (k + 5) u v) v v1) u v1 := by
  obtain ⟨A, M⟩ := v
  unfold wpX_structures wpY_structures
  dsimp only
  rcases qs_tab v1 with ⟨t, ht, rfl⟩ | ⟨bX, bY⟩
  · obtain ⟨r, hX, hY⟩ := qs_strL u A M ht (qs_Iw I ht) 64 0 0 rfl
    exact qs_xT ht _ (br_f qs_10 ⟨65, hX _ (qs_yT _ ht _ (br_f qs_10 ⟨65, hY _ ⟨rfl, I⟩⟩))⟩)
  · exact bX _ (br_t rfl (bY _ _ (br_t rfl ⟨rfl, I⟩)))
theorem i_vc_shifted {k : Nat} {u : SX} {v : SY} (I : i_Rel k u v) (hk : k + 5 ≤ 2560) (v1 : Int32) (v2 : Int32) : wpX_shifted (fun r => wpY_shifted (fun r' => r' = r ∧ i_Rel (k + 5) u v) v v1 v2) u v1 v2 := by
  obtain ⟨A, M⟩ := v
  unfold wpX_shifted wpY_shifted
  dsimp only
  rcases qs_tab v1 with ⟨t, ht, rfl⟩ | ⟨bX, bY⟩
  · rcases qs_tab v2 with ⟨s, hs, rfl⟩ | ⟨bX, bY⟩
    · obtain ⟨r, hr, hX⟩ := qs_xShL u ht hs 64 0 rfl
      obtain ⟨r', hr', hY⟩ := qs_yShL A M ht hs (I t ht) (I s hs) 4096 0 rfl
      have e : r' = r := by
        rcases hr with ⟨e1, h1⟩ | ⟨e1, h1⟩
        · rcases hr' with ⟨e2, h2⟩ | ⟨e2, h2⟩
          · rw [e1, e2]
          · obtain ⟨n, a, b, c⟩ := qs_shEq.mp h1
            exact absurd c (h2 n a b)
        · rcases hr' with ⟨e2, h2⟩ | ⟨e2, h2⟩
          · obtain ⟨n, a, b, c⟩ := qs_shEq.mpr h2
            exact absurd c (h1 n a b)
          · rw [e1, e2]
      exact qs_xT ht _ (br_f qs_10 (qs_xT hs _ (br_f qs_10 ⟨65, hX _ (qs_yT _ ht _ (br_f qs_10 (qs_yT _ hs _ (br_f qs_10 ⟨4097, hY _ ⟨e, I⟩⟩))))⟩)))
    · exact qs_xT ht _ (br_f qs_10 (bX _ (br_t rfl (qs_yT _ ht _ (br_f qs_10 (bY _ _ (br_t rfl ⟨rfl, I⟩)))))))
  · exact bX _ (br_t rfl (bY _ _ (br_t rfl ⟨rfl, I⟩)))
