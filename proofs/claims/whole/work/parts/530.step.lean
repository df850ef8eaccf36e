theorem bz_or (x : Int32) : ∃ b, b ≤ 1 ∧ bz x = nI b := by
  by_cases h : x = 0
  · exact ⟨0, by omega, bz_t h⟩
  · exact ⟨1, by omega, bz_f h⟩
theorem step_0 {t : Nat} {κ : Mem} (ht : t < 2147480000) (I : INV t κ) (s1 s2 s3 s4 s5 : Int32) : ∃ κ2, St_0 s1 s2 s3 s4 s5 κ κ2 ∧ INV (t + 1) κ2 := by
  obtain ⟨r, κ1, κ2, h1, h2, h3⟩ := stepX (q_feed s1 s2 s3 s4 s5) (fun _ _ _ h => B_feed_fr h) (fun _ _ _ h => M_feed_fr h) (by decide) (by decide) ht I
  exact ⟨κ2, ⟨r, κ1, h1, h2⟩, h3⟩
theorem step_1 {t : Nat} {κ : Mem} (ht : t < 2147480000) (I : INV t κ) (s1 : Int32) : ∃ κ2, St_1 s1 κ κ2 ∧ INV (t + 1) κ2 := by
  obtain ⟨r, κ1, κ2, h1, h2, h3⟩ := stepX (q_end s1) (fun _ _ _ h => B_end_fr h) (fun _ _ _ h => M_end_fr h) (by decide) (by decide) ht I
  exact ⟨κ2, ⟨r, κ1, h1, h2⟩, h3⟩
theorem step_2 {t : Nat} {κ : Mem} (ht : t < 2147480000) (I : INV t κ) (s1 : Int32) : ∃ κ2, St_2 s1 κ κ2 ∧ INV (t + 1) κ2 := by
  obtain ⟨r, κ1, κ2, h1, h2, h3⟩ := stepC (q_fault s1) (fun _ _ _ h => B_fault_fr h) (fun _ _ _ h => M_fault_fr h) (by decide) (by decide) I
  exact ⟨κ2, ⟨r, κ1, h1, h2⟩, h3⟩
theorem step_3 {t : Nat} {κ : Mem} (ht : t < 2147480000) (I : INV t κ) (s1 : Int32) : ∃ κ2, St_3 s1 κ κ2 ∧ INV (t + 1) κ2 := by
  obtain ⟨r, κ1, κ2, h1, h2, h3⟩ := stepT s1 ht I
  exact ⟨κ2, ⟨r, κ1, h1, h2⟩, h3⟩
theorem step_4 {t : Nat} {κ : Mem} (ht : t < 2147480000) (I : INV t κ) (s1 s2 s3 s4 s5 s6 : Int32) : ∃ κ2, St_4 s1 s2 s3 s4 s5 s6 κ κ2 ∧ INV (t + 1) κ2 := by
  obtain ⟨b, hb, eb⟩ := bz_or s4
  unfold St_4
  rw [eb]
  obtain ⟨r, κ1, κ2, h1, h2, h3⟩ := stepX (q_thing s1 s2 s3 b hb s5 s6) (fun _ _ _ h => B_thing_fr h) (fun _ _ _ h => M_thing_fr h) (by decide) (by decide) ht I
  exact ⟨κ2, ⟨r, κ1, h1, h2⟩, h3⟩
theorem step_5 {t : Nat} {κ : Mem} (ht : t < 2147480000) (I : INV t κ) (s1 s2 s3 : Int32) : ∃ κ2, St_5 s1 s2 s3 κ κ2 ∧ INV (t + 1) κ2 := by
  obtain ⟨r, κ1, κ2, h1, h2, h3⟩ := stepX (q_sized s1 s2 s3) (fun _ _ _ h => B_sized_fr h) (fun _ _ _ h => M_sized_fr h) (by decide) (by decide) ht I
  exact ⟨κ2, ⟨r, κ1, h1, h2⟩, h3⟩
theorem step_6 {t : Nat} {κ : Mem} (ht : t < 2147480000) (I : INV t κ) (s1 s2 : Int32) : ∃ κ2, St_6 s1 s2 κ κ2 ∧ INV (t + 1) κ2 := by
  obtain ⟨r, h1, h2, h3⟩ := stepP (q_size s1 s2) I
  exact ⟨κ, ⟨r, h1, h2, rfl⟩, h3⟩
theorem step_8 {t : Nat} {κ : Mem} (ht : t < 2147480000) (I : INV t κ) (s1 : Int32) : ∃ κ2, St_8 s1 κ κ2 ∧ INV (t + 1) κ2 := by
  obtain ⟨r, κ1, κ2, h1, h2, h3⟩ := stepX (q_most s1) (fun _ _ _ h => B_most_fr h) (fun _ _ _ h => M_most_fr h) (by decide) (by decide) ht I
  exact ⟨κ2, ⟨r, κ1, h1, h2⟩, h3⟩
theorem step_9 {t : Nat} {κ : Mem} (ht : t < 2147480000) (I : INV t κ) (s1 s2 s3 s4 : Int32) : ∃ κ2, St_9 s1 s2 s3 s4 κ κ2 ∧ INV (t + 1) κ2 := by
  obtain ⟨r, κ1, κ2, h1, h2, h3⟩ := stepX (q_hold s1 s2 s3 s4) (fun _ _ _ h => B_hold_fr h) (fun _ _ _ h => M_hold_fr h) (by decide) (by decide) ht I
  exact ⟨κ2, ⟨r, κ1, h1, h2⟩, h3⟩
theorem step_10 {t : Nat} {κ : Mem} (ht : t < 2147480000) (I : INV t κ) (s1 : Int32) : ∃ κ2, St_10 s1 κ κ2 ∧ INV (t + 1) κ2 := by
  obtain ⟨r, κ1, κ2, h1, h2, h3⟩ := stepC (q_dishes s1) (fun _ _ _ h => B_dishes_fr h) (fun _ _ _ h => M_dishes_fr h) (by decide) (by decide) I
  exact ⟨κ2, ⟨r, κ1, h1, h2⟩, h3⟩
theorem step_11 {t : Nat} {κ : Mem} (ht : t < 2147480000) (I : INV t κ) (s1 s2 s3 : Int32) : ∃ κ2, St_11 s1 s2 s3 κ κ2 ∧ INV (t + 1) κ2 := by
  obtain ⟨r, κ1, κ2, h1, h2, h3⟩ := stepC (q_dish_ s1 s2 s3) (fun _ _ _ h => B_dish_fr h) (fun _ _ _ h => M_dish_fr h) (by decide) (by decide) I
  exact ⟨κ2, ⟨r, κ1, h1, h2⟩, h3⟩
theorem step_12 {t : Nat} {κ : Mem} (ht : t < 2147480000) (I : INV t κ) (s1 s2 s3 : Int32) : ∃ κ2, St_12 s1 s2 s3 κ κ2 ∧ INV (t + 1) κ2 := by
  obtain ⟨r, κ1, κ2, h1, h2, h3⟩ := stepC (q_span s1 s2 s3) (fun _ _ _ h => B_span_fr h) (fun _ _ _ h => M_span_fr h) (by decide) (by decide) I
  exact ⟨κ2, ⟨r, κ1, h1, h2⟩, h3⟩
theorem step_13 {t : Nat} {κ : Mem} (ht : t < 2147480000) (I : INV t κ) (s1 : Int32) : ∃ κ2, St_13 s1 κ κ2 ∧ INV (t + 1) κ2 := by
  obtain ⟨r, κ1, κ2, h1, h2, h3⟩ := stepC (q_shared s1) (fun _ _ _ h => B_shared_fr h) (fun _ _ _ h => M_shared_fr h) (by decide) (by decide) I
  exact ⟨κ2, ⟨r, κ1, h1, h2⟩, h3⟩
theorem step_14 {t : Nat} {κ : Mem} (ht : t < 2147480000) (I : INV t κ) (s1 s2 s3 : Int32) : ∃ κ2, St_14 s1 s2 s3 κ κ2 ∧ INV (t + 1) κ2 := by
  obtain ⟨r, κ1, κ2, h1, h2, h3⟩ := stepC (q_worth s1 s2 s3) (fun _ _ _ h => B_worth_fr h) (fun _ _ _ h => M_worth_fr h) (by decide) (by decide) I
  exact ⟨κ2, ⟨r, κ1, h1, h2⟩, h3⟩
theorem step_15 {t : Nat} {κ : Mem} (ht : t < 2147480000) (I : INV t κ) (s1 s2 s3 : Int32) : ∃ κ2, St_15 s1 s2 s3 κ κ2 ∧ INV (t + 1) κ2 := by
  obtain ⟨r, κ1, κ2, h1, h2, h3⟩ := stepC (q_range s1 s2 s3) (fun _ _ _ h => B_range_fr h) (fun _ _ _ h => M_range_fr h) (by decide) (by decide) I
  exact ⟨κ2, ⟨r, κ1, h1, h2⟩, h3⟩
theorem step_16 {t : Nat} {κ : Mem} (ht : t < 2147480000) (I : INV t κ) (s1 : Int32) : ∃ κ2, St_16 s1 κ κ2 ∧ INV (t + 1) κ2 := by
  obtain ⟨r, κ1, κ2, h1, h2, h3⟩ := stepC (q_weigh s1) (fun _ _ _ h => B_weigh_fr h) (fun _ _ _ h => M_weigh_fr h) (by decide) (by decide) I
  exact ⟨κ2, ⟨r, κ1, h1, h2⟩, h3⟩
theorem step_17 {t : Nat} {κ : Mem} (ht : t < 2147480000) (I : INV t κ) (s1 s2 s3 : Int32) : ∃ κ2, St_17 s1 s2 s3 κ κ2 ∧ INV (t + 1) κ2 := by
  obtain ⟨b, hb, eb⟩ := bz_or s3
  unfold St_17
  rw [eb]
  obtain ⟨r, κ1, κ2, h1, h2, h3⟩ := stepX (q_trial s1 s2 b hb) (fun _ _ _ h => B_trial_fr h) (fun _ _ _ h => M_trial_fr h) (by decide) (by decide) ht I
  exact ⟨κ2, ⟨r, κ1, h1, h2⟩, h3⟩
theorem step_18 {t : Nat} {κ : Mem} (ht : t < 2147480000) (I : INV t κ) (s1 s2 s3 : Int32) : ∃ κ2, St_18 s1 s2 s3 κ κ2 ∧ INV (t + 1) κ2 := by
  obtain ⟨r, κ1, κ2, h1, h2, h3⟩ := stepC (q_stands s1 s2 s3) (fun _ _ _ h => B_stands_fr h) (fun _ _ _ h => M_stands_fr h) (by decide) (by decide) I
  exact ⟨κ2, ⟨r, κ1, h1, h2⟩, h3⟩
theorem step_19 {t : Nat} {κ : Mem} (ht : t < 2147480000) (I : INV t κ) (s1 s2 s3 : Int32) : ∃ κ2, St_19 s1 s2 s3 κ κ2 ∧ INV (t + 1) κ2 := by
  obtain ⟨r, κ1, κ2, h1, h2, h3⟩ := stepC (q_stand s1 s2 s3) (fun _ _ _ h => B_stand_fr h) (fun _ _ _ h => M_stand_fr h) (by decide) (by decide) I
  exact ⟨κ2, ⟨r, κ1, h1, h2⟩, h3⟩
theorem step_20 {t : Nat} {κ : Mem} (ht : t < 2147480000) (I : INV t κ) (s1 : Int32) : ∃ κ2, St_20 s1 κ κ2 ∧ INV (t + 1) κ2 := by
  obtain ⟨r, κ1, κ2, h1, h2, h3⟩ := stepX (q_book s1) (fun _ _ _ h => B_book_fr h) (fun _ _ _ h => M_book_fr h) (by decide) (by decide) ht I
  exact ⟨κ2, ⟨r, κ1, h1, h2⟩, h3⟩
theorem step_21 {t : Nat} {κ : Mem} (ht : t < 2147480000) (I : INV t κ) (s1 s2 s3 : Int32) : ∃ κ2, St_21 s1 s2 s3 κ κ2 ∧ INV (t + 1) κ2 := by
  obtain ⟨r, κ1, κ2, h1, h2, h3⟩ := stepX (q_slip s1 s2 s3) (fun _ _ _ h => B_slip_fr h) (fun _ _ _ h => M_slip_fr h) (by decide) (by decide) ht I
  exact ⟨κ2, ⟨r, κ1, h1, h2⟩, h3⟩
theorem step_22 {t : Nat} {κ : Mem} (ht : t < 2147480000) (I : INV t κ) (s1 s2 : Int32) : ∃ κ2, St_22 s1 s2 κ κ2 ∧ INV (t + 1) κ2 := by
  obtain ⟨r, κ1, κ2, h1, h2, h3⟩ := stepX (q_reads s1 s2) (fun _ _ _ h => B_reads_fr h) (fun _ _ _ h => M_reads_fr h) (by decide) (by decide) ht I
  exact ⟨κ2, ⟨r, κ1, h1, h2⟩, h3⟩
theorem step_23 {t : Nat} {κ : Mem} (ht : t < 2147480000) (I : INV t κ) (s1 : Int32) : ∃ κ2, St_23 s1 κ κ2 ∧ INV (t + 1) κ2 := by
  obtain ⟨r, κ1, κ2, h1, h2, h3⟩ := stepC (q_cost s1) (fun _ _ _ h => B_cost_fr h) (fun _ _ _ h => M_cost_fr h) (by decide) (by decide) I
  exact ⟨κ2, ⟨r, κ1, h1, h2⟩, h3⟩
theorem step_24 {t : Nat} {κ : Mem} (ht : t < 2147480000) (I : INV t κ) (s1 : Int32) : ∃ κ2, St_24 s1 κ κ2 ∧ INV (t + 1) κ2 := by
  obtain ⟨r, κ1, κ2, h1, h2, h3⟩ := stepL (q_ways s1) (fun _ _ _ h => B_ways_fr h) (fun _ _ _ h => M_ways_fr h) (by decide) (by decide) I
  exact ⟨κ2, ⟨r, κ1, h1, h2⟩, h3⟩
theorem step_25 {t : Nat} {κ : Mem} (ht : t < 2147480000) (I : INV t κ) : ∃ κ2, St_25 κ κ2 ∧ INV (t + 1) κ2 := by
  obtain ⟨r, κ1, κ2, h1, h2, h3⟩ := stepC q_first (fun _ _ _ h => B_first_fr h) (fun _ _ _ h => M_first_fr h) (by decide) (by decide) I
  exact ⟨κ2, ⟨r, κ1, h1, h2⟩, h3⟩
theorem step_26 {t : Nat} {κ : Mem} (ht : t < 2147480000) (I : INV t κ) (s1 : Int32) : ∃ κ2, St_26 s1 κ κ2 ∧ INV (t + 1) κ2 := by
  obtain ⟨r, κ1, κ2, h1, h2, h3⟩ := stepC (q_could s1) (fun _ _ _ h => B_could_fr h) (fun _ _ _ h => M_could_fr h) (by decide) (by decide) I
  exact ⟨κ2, ⟨r, κ1, h1, h2⟩, h3⟩
theorem step_27 {t : Nat} {κ : Mem} (ht : t < 2147480000) (I : INV t κ) (s1 s2 : Int32) : ∃ κ2, St_27 s1 s2 κ κ2 ∧ INV (t + 1) κ2 := by
  obtain ⟨b, hb, eb⟩ := bz_or s2
  unfold St_27
  rw [eb]
  obtain ⟨r, κ1, κ2, h1, h2, h3⟩ := stepX (q_day s1 b hb) (fun _ _ _ h => B_day_fr h) (fun _ _ _ h => M_day_fr h) (by decide) (by decide) ht I
  exact ⟨κ2, ⟨r, κ1, h1, h2⟩, h3⟩
theorem step_28 {t : Nat} {κ : Mem} (ht : t < 2147480000) (I : INV t κ) (s1 s2 s3 : Int32) : ∃ κ2, St_28 s1 s2 s3 κ κ2 ∧ INV (t + 1) κ2 := by
  obtain ⟨r, κ1, κ2, h1, h2, h3⟩ := stepX (q_bought s1 s2 s3) (fun _ _ _ h => B_bought_fr h) (fun _ _ _ h => M_bought_fr h) (by decide) (by decide) ht I
  exact ⟨κ2, ⟨r, κ1, h1, h2⟩, h3⟩
theorem step_29 {t : Nat} {κ : Mem} (ht : t < 2147480000) (I : INV t κ) (s1 s2 : Int32) : ∃ κ2, St_29 s1 s2 κ κ2 ∧ INV (t + 1) κ2 := by
  obtain ⟨r, κ1, κ2, h1, h2, h3⟩ := stepC (q_may s1 s2) (fun _ _ _ h => B_may_fr h) (fun _ _ _ h => M_may_fr h) (by decide) (by decide) I
  exact ⟨κ2, ⟨r, κ1, h1, h2⟩, h3⟩
theorem step_30 {t : Nat} {κ : Mem} (ht : t < 2147480000) (I : INV t κ) (s1 s2 s3 s4 : Int32) : ∃ κ2, St_30 s1 s2 s3 s4 κ κ2 ∧ INV (t + 1) κ2 := by
  obtain ⟨r, κ1, κ2, h1, h2, h3⟩ := stepC (q_menu s1 s2 s3 s4) (fun _ _ _ h => B_menu_fr h) (fun _ _ _ h => M_menu_fr h) (by decide) (by decide) I
  exact ⟨κ2, ⟨r, κ1, h1, h2⟩, h3⟩
theorem step_31 {t : Nat} {κ : Mem} (ht : t < 2147480000) (I : INV t κ) (s1 s2 s3 s4 s5 : Int32) : ∃ κ2, St_31 s1 s2 s3 s4 s5 κ κ2 ∧ INV (t + 1) κ2 := by
  obtain ⟨r, κ1, κ2, h1, h2, h3⟩ := stepC (q_messes s1 s2 s3 s4 s5) (fun _ _ _ h => B_messes_fr h) (fun _ _ _ h => M_messes_fr h) (by decide) (by decide) I
  exact ⟨κ2, ⟨r, κ1, h1, h2⟩, h3⟩
theorem step_32 {t : Nat} {κ : Mem} (ht : t < 2147480000) (I : INV t κ) (s1 : Int32) : ∃ κ2, St_32 s1 κ κ2 ∧ INV (t + 1) κ2 := by
  obtain ⟨r, h1, h2, h3⟩ := stepP (q_months s1) I
  exact ⟨κ, ⟨r, h1, h2, rfl⟩, h3⟩
theorem step_33 {t : Nat} {κ : Mem} (ht : t < 2147480000) (I : INV t κ) (s1 s2 : Int32) : ∃ κ2, St_33 s1 s2 κ κ2 ∧ INV (t + 1) κ2 := by
  obtain ⟨r, κ2, h1, h2, h3⟩ := stepM (q_far s1 s2) (fun _ _ _ h => M_far_fr h) (by decide) I
  exact ⟨κ2, ⟨r, h1, h2⟩, h3⟩
theorem step_34 {t : Nat} {κ : Mem} (ht : t < 2147480000) (I : INV t κ) (s1 : Int32) : ∃ κ2, St_34 s1 κ κ2 ∧ INV (t + 1) κ2 := by
  obtain ⟨r, κ2, h1, h2, h3⟩ := stepM (q_came s1) (fun _ _ _ h => M_came_fr h) (by decide) I
  exact ⟨κ2, ⟨r, h1, h2⟩, h3⟩
theorem step_35 {t : Nat} {κ : Mem} (ht : t < 2147480000) (I : INV t κ) : ∃ κ2, St_35 κ κ2 ∧ INV (t + 1) κ2 := by
  obtain ⟨r, κ1, κ2, h1, h2, h3⟩ := stepC q_tree (fun _ _ _ h => B_tree_fr h) (fun _ _ _ h => M_tree_fr h) (by decide) (by decide) I
  exact ⟨κ2, ⟨r, κ1, h1, h2⟩, h3⟩
theorem step_36 {t : Nat} {κ : Mem} (ht : t < 2147480000) (I : INV t κ) (s1 s2 : Int32) : ∃ κ2, St_36 s1 s2 κ κ2 ∧ INV (t + 1) κ2 := by
  obtain ⟨r, κ1, κ2, h1, h2, h3⟩ := stepX (q_wrote s1 s2) (fun _ _ _ h => B_wrote_fr h) (fun _ _ _ h => M_wrote_fr h) (by decide) (by decide) ht I
  exact ⟨κ2, ⟨r, κ1, h1, h2⟩, h3⟩
theorem step_37 {t : Nat} {κ : Mem} (ht : t < 2147480000) (I : INV t κ) (s1 s2 s3 : Int32) : ∃ κ2, St_37 s1 s2 s3 κ κ2 ∧ INV (t + 1) κ2 := by
  obtain ⟨r, h1, h2, h3⟩ := stepP (q_leaves s1 s2 s3) I
  exact ⟨κ, ⟨r, h1, h2, rfl⟩, h3⟩
theorem step_38 {t : Nat} {κ : Mem} (ht : t < 2147480000) (I : INV t κ) (s1 : Int32) : ∃ κ2, St_38 s1 κ κ2 ∧ INV (t + 1) κ2 := by
  obtain ⟨r, h1, h2, h3⟩ := stepP (q_twice s1) I
  exact ⟨κ, ⟨r, h1, h2, rfl⟩, h3⟩
theorem step_39 {t : Nat} {κ : Mem} (ht : t < 2147480000) (I : INV t κ) (s1 s2 s3 : Int32) : ∃ κ2, St_39 s1 s2 s3 κ κ2 ∧ INV (t + 1) κ2 := by
  obtain ⟨r, κ1, κ2, h1, h2, h3⟩ := stepC (q_weight s1 s2 s3) (fun _ _ _ h => B_weight_fr h) (fun _ _ _ h => M_weight_fr h) (by decide) (by decide) I
  exact ⟨κ2, ⟨r, κ1, h1, h2⟩, h3⟩
theorem step_40 {t : Nat} {κ : Mem} (ht : t < 2147480000) (I : INV t κ) (s1 s2 s3 s4 : Int32) : ∃ κ2, St_40 s1 s2 s3 s4 κ κ2 ∧ INV (t + 1) κ2 := by
  obtain ⟨r, κ1, κ2, h1, h2, h3⟩ := stepC (q_serves s1 s2 s3 s4) (fun _ _ _ h => B_serves_fr h) (fun _ _ _ h => M_serves_fr h) (by decide) (by decide) I
  exact ⟨κ2, ⟨r, κ1, h1, h2⟩, h3⟩
theorem step_41 {t : Nat} {κ : Mem} (ht : t < 2147480000) (I : INV t κ) (s1 s2 s3 s4 : Int32) : ∃ κ2, St_41 s1 s2 s3 s4 κ κ2 ∧ INV (t + 1) κ2 := by
  obtain ⟨r, κ1, κ2, h1, h2, h3⟩ := stepC (q_boil s1 s2 s3 s4) (fun _ _ _ h => B_boil_fr h) (fun _ _ _ h => M_boil_fr h) (by decide) (by decide) I
  exact ⟨κ2, ⟨r, κ1, h1, h2⟩, h3⟩
theorem step_42 {t : Nat} {κ : Mem} (ht : t < 2147480000) (I : INV t κ) (s1 s2 : Int32) : ∃ κ2, St_42 s1 s2 κ κ2 ∧ INV (t + 1) κ2 := by
  obtain ⟨r, κ2, h1, h2, h3⟩ := stepM (q_changed s1 s2) (fun _ _ _ h => M_changed_fr h) (by decide) I
  exact ⟨κ2, ⟨r, h1, h2⟩, h3⟩
theorem step_43 {t : Nat} {κ : Mem} (ht : t < 2147480000) (I : INV t κ) (s1 : Int32) : ∃ κ2, St_43 s1 κ κ2 ∧ INV (t + 1) κ2 := by
  obtain ⟨r, κ2, h1, h2, h3⟩ := stepM (q_line s1) (fun _ _ _ h => M_line_fr h) (by decide) I
  exact ⟨κ2, ⟨r, h1, h2⟩, h3⟩
theorem step_44 {t : Nat} {κ : Mem} (ht : t < 2147480000) (I : INV t κ) (s1 s2 : Int32) : ∃ κ2, St_44 s1 s2 κ κ2 ∧ INV (t + 1) κ2 := by
  obtain ⟨r, κ2, h1, h2, h3⟩ := stepM (q_stem s1 s2) (fun _ _ _ h => M_stem_fr h) (by decide) I
  exact ⟨κ2, ⟨r, h1, h2⟩, h3⟩
theorem step_45 {t : Nat} {κ : Mem} (ht : t < 2147480000) (I : INV t κ) (s1 s2 : Int32) : ∃ κ2, St_45 s1 s2 κ κ2 ∧ INV (t + 1) κ2 := by
  obtain ⟨r, h1, h2, h3⟩ := stepP (q_guess s1 s2) I
  exact ⟨κ, ⟨r, h1, h2, rfl⟩, h3⟩
theorem step_46 {t : Nat} {κ : Mem} (ht : t < 2147480000) (I : INV t κ) (s1 : Int32) : ∃ κ2, St_46 s1 κ κ2 ∧ INV (t + 1) κ2 := by
  obtain ⟨r, κ1, κ2, h1, h2, h3⟩ := stepC (q_nearest s1) (fun _ _ _ h => B_nearest_fr h) (fun _ _ _ h => M_nearest_fr h) (by decide) (by decide) I
  exact ⟨κ2, ⟨r, κ1, h1, h2⟩, h3⟩
theorem step_47 {t : Nat} {κ : Mem} (ht : t < 2147480000) (I : INV t κ) (s1 s2 s3 s4 : Int32) : ∃ κ2, St_47 s1 s2 s3 s4 κ κ2 ∧ INV (t + 1) κ2 := by
  obtain ⟨r, κ1, κ2, h1, h2, h3⟩ := stepC (q_lacking s1 s2 s3 s4) (fun _ _ _ h => B_lacking_fr h) (fun _ _ _ h => M_lacking_fr h) (by decide) (by decide) I
  exact ⟨κ2, ⟨r, κ1, h1, h2⟩, h3⟩
theorem step_48 {t : Nat} {κ : Mem} (ht : t < 2147480000) (I : INV t κ) (s1 s2 s3 : Int32) : ∃ κ2, St_48 s1 s2 s3 κ κ2 ∧ INV (t + 1) κ2 := by
  obtain ⟨r, κ1, κ2, h1, h2, h3⟩ := stepC (q_enough s1 s2 s3) (fun _ _ _ h => B_enough_fr h) (fun _ _ _ h => M_enough_fr h) (by decide) (by decide) I
  exact ⟨κ2, ⟨r, κ1, h1, h2⟩, h3⟩
theorem step_49 {t : Nat} {κ : Mem} (ht : t < 2147480000) (I : INV t κ) (s1 s2 s3 s4 : Int32) : ∃ κ2, St_49 s1 s2 s3 s4 κ κ2 ∧ INV (t + 1) κ2 := by
  obtain ⟨r, κ1, κ2, h1, h2, h3⟩ := stepC (q_wasted s1 s2 s3 s4) (fun _ _ _ h => B_wasted_fr h) (fun _ _ _ h => M_wasted_fr h) (by decide) (by decide) I
  exact ⟨κ2, ⟨r, κ1, h1, h2⟩, h3⟩
theorem step_50 {t : Nat} {κ : Mem} (ht : t < 2147480000) (I : INV t κ) (s1 s2 s3 s4 : Int32) : ∃ κ2, St_50 s1 s2 s3 s4 κ κ2 ∧ INV (t + 1) κ2 := by
  obtain ⟨r, κ1, κ2, h1, h2, h3⟩ := stepC (q_lean s1 s2 s3 s4) (fun _ _ _ h => B_lean_fr h) (fun _ _ _ h => M_lean_fr h) (by decide) (by decide) I
  exact ⟨κ2, ⟨r, κ1, h1, h2⟩, h3⟩
theorem step_51 {t : Nat} {κ : Mem} (ht : t < 2147480000) (I : INV t κ) (s1 s2 s3 : Int32) : ∃ κ2, St_51 s1 s2 s3 κ κ2 ∧ INV (t + 1) κ2 := by
  obtain ⟨r, κ1, κ2, h1, h2, h3⟩ := stepC (q_softer s1 s2 s3) (fun _ _ _ h => B_softer_fr h) (fun _ _ _ h => M_softer_fr h) (by decide) (by decide) I
  exact ⟨κ2, ⟨r, κ1, h1, h2⟩, h3⟩
theorem step_52 {t : Nat} {κ : Mem} (ht : t < 2147480000) (I : INV t κ) (s1 s2 s3 : Int32) : ∃ κ2, St_52 s1 s2 s3 κ κ2 ∧ INV (t + 1) κ2 := by
  obtain ⟨r, κ1, κ2, h1, h2, h3⟩ := stepC (q_swapped s1 s2 s3) (fun _ _ _ h => B_swapped_fr h) (fun _ _ _ h => M_swapped_fr h) (by decide) (by decide) I
  exact ⟨κ2, ⟨r, κ1, h1, h2⟩, h3⟩
theorem step_53 {t : Nat} {κ : Mem} (ht : t < 2147480000) (I : INV t κ) (s1 : Int32) : ∃ κ2, St_53 s1 κ κ2 ∧ INV (t + 1) κ2 := by
  obtain ⟨r, h1, h2, h3⟩ := stepP (q_count s1) I
  exact ⟨κ, ⟨r, h1, h2, rfl⟩, h3⟩
