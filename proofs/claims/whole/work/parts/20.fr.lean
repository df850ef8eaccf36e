/-! WHAT A FUNCTION LEAVES ALONE: all variables but those of W -/
def Fr (W : List Nat) (μ μ' : Mem) : Prop := ∀ v, v ∉ W → mI μ' v = mI μ v ∧ mL μ' v = mL μ v
theorem iteS {α : Type} {c : Prop} [Decidable c] {a b : Option α} {o : α} (h : (if c then a else b) = some o) : a = some o ∨ b = some o := by
  split at h
  · exact Or.inl h
  · exact Or.inr h
theorem Fr.refl {W : List Nat} {μ : Mem} : Fr W μ μ := fun _ _ => ⟨rfl, rfl⟩
theorem Fr.trans {W : List Nat} {a b c : Mem} (h : Fr W a b) (h' : Fr W b c) : Fr W a c := fun v hv => ⟨(h' v hv).1.trans (h v hv).1, (h' v hv).2.trans (h v hv).2⟩
theorem Fr.mono {W W' : List Nat} {a b : Mem} (h : Fr W a b) (hs : ∀ v ∈ W, v ∈ W') : Fr W' a b := fun v hv => h v fun q => hv (hs v q)
theorem Fr.i {W : List Nat} {a b : Mem} (h : Fr W a b) (v : Nat) (hv : v ∉ W) : mI b v = mI a v := (h v hv).1
theorem Fr.l {W : List Nat} {a b : Mem} (h : Fr W a b) (v : Nat) (hv : v ∉ W) : mL b v = mL a v := (h v hv).2
theorem fr_si {W : List Nat} {a b : Mem} {v r c : Nat} {x : Int32} (hv : v ∈ W) (h : Fr W a b) : Fr W a (mSI b v r c x) := fun u hu => by
  have hne : u ≠ v := fun q => hu (q ▸ hv)
  refine ⟨(?_ : mI (mSI b v r c x) u = mI b u).trans (h u hu).1, (h u hu).2⟩
  funext r' c'
  simp [mI, mSI, hne]
theorem fr_sl {W : List Nat} {a b : Mem} {v r c : Nat} {x : Int64} (hv : v ∈ W) (h : Fr W a b) : Fr W a (mSL b v r c x) := fun u hu => by
  have hne : u ≠ v := fun q => hu (q ▸ hv)
  refine ⟨(h u hu).1, (?_ : mL (mSL b v r c x) u = mL b u).trans (h u hu).2⟩
  funext r' c'
  simp [mL, mSL, hne]
theorem fr_mWr {W : List Nat} {a b d : Mem} {v r n : Nat} {i x : Int32} (hv : v ∈ W) (h : Fr W a b) (h1 : mWr b v r n i x = some d) : Fr W a d := by
  unfold mWr at h1
  split at h1
  · cases h1; exact fr_si hv h
  · cases h1
theorem fr_mWz {W : List Nat} {a b d : Mem} {v r n : Nat} {i x : Int32} (hv : v ∈ W) (h : Fr W a b) (h1 : mWz b v r n i x = some d) : Fr W a d := by
  unfold mWz at h1
  split at h1
  · cases h1; exact fr_si hv h
  · cases h1
theorem fr_mWl {W : List Nat} {a b d : Mem} {v r n : Nat} {i : Int32} {x : Int64} (hv : v ∈ W) (h : Fr W a b) (h1 : mWl b v r n i x = some d) : Fr W a d := by
  unfold mWl at h1
  split at h1
  · cases h1; exact fr_sl hv h
  · cases h1
theorem fr_mSI {W : List Nat} {a b d : Mem} {v r c : Nat} {x : Int32} (hv : v ∈ W) (h : Fr W a b) (h1 : some (mSI b v r c x) = some d) : Fr W a d := by
  cases h1; exact fr_si hv h
theorem fr_mCP {W : List Nat} {a b d : Mem} {v r v' r' n : Nat} (hv : v' ∈ W) (h : Fr W a b) (h1 : some (mCP b v r v' r' n) = some d) : Fr W a d := by
  cases h1
  intro u hu
  have hne : u ≠ v' := fun q => hu (q ▸ hv)
  refine ⟨(?_ : mI (mCP b v r v' r' n) u = mI b u).trans (h u hu).1, (h u hu).2⟩
  funext r'' c'
  simp [mI, mCP, hne]
set_option maxRecDepth 100000 in
theorem Tape_put_l1_fr {v1 : Int32} {μo : Mem} : ∀ {n : Nat} {v2 : Int32} {μ : Mem}, Tape_put_l1 v1 n v2 μ = some μo → Fr [1000, 1001] μ μo := by
  intro n
  induction n with
  | zero => intro v2 μ h; exact noS h
  | succ n ih =>
    intro v2 μ h
    replace h : Tape_put_l1b v1 (Tape_put_l1 v1 n) v2 μ = some μo := h
    unfold Tape_put_l1b at h
    have hF : Fr [1000, 1001] μ μ := Fr.refl
    rcases iteS h with h | h
    · cases h; exact hF
    · obtain ⟨_, _, h⟩ := bdS h
      obtain ⟨μ4, hj, h⟩ := bdS h
      replace hF : Fr [1000, 1001] μ μ4 := by
        clear h
        replace h := hj
        clear hj
        rcases iteS h with h | h
        · cases h; exact hF
        · rcases iteS h with h | h
          · obtain ⟨μ2, h1, h⟩ := bdS h
            replace hF := fr_mWr (by decide) hF h1
            obtain ⟨μ3, h1, h⟩ := bdS h
            replace hF := fr_mSI (by decide) hF h1
            cases h; exact hF
          · cases h; exact hF
      obtain ⟨_, _, h⟩ := bdS h
      exact hF.trans (ih h)
set_option maxRecDepth 100000 in
theorem Tape_put_fr {a1 : Int32} {μ : Mem} {μ' : Mem} (h : Tape_put a1 μ = some μ') : Fr [1000, 1001] μ μ' := by
  unfold Tape_put at h
  have hF : Fr [1000, 1001] μ μ := Fr.refl
  obtain ⟨μ1, h1, h⟩ := bdS h
  replace hF := hF.trans ((Tape_put_l1_fr h1).mono (by decide))
  cases h; exact hF
set_option maxRecDepth 100000 in
theorem B_feed_fr {a1 : Int32} {a2 : Int32} {a3 : Int32} {a4 : Int32} {a5 : Int32} {μ : Mem} {r : Int32} {μ' : Mem} (h : B_feed a1 a2 a3 a4 a5 μ = some (r, μ')) : Fr [1000, 1001] μ μ' := by
  unfold B_feed at h
  have hF : Fr [1000, 1001] μ μ := Fr.refl
  obtain ⟨_, _, h⟩ := bdS h
  obtain ⟨_, _, h⟩ := bdS h
  obtain ⟨_, _, h⟩ := bdS h
  obtain ⟨_, _, h⟩ := bdS h
  obtain ⟨_, _, h⟩ := bdS h
  obtain ⟨_, _, h⟩ := bdS h
  rcases iteS h with h | h
  · cases h; exact hF
  · obtain ⟨μ7, h1, h⟩ := bdS h
    replace hF := hF.trans ((Tape_put_fr h1).mono (by decide))
    obtain ⟨μ8, h1, h⟩ := bdS h
    replace hF := hF.trans ((Tape_put_fr h1).mono (by decide))
    obtain ⟨μ9, h1, h⟩ := bdS h
    replace hF := hF.trans ((Tape_put_fr h1).mono (by decide))
    obtain ⟨μ10, h1, h⟩ := bdS h
    replace hF := hF.trans ((Tape_put_fr h1).mono (by decide))
    obtain ⟨μ11, h1, h⟩ := bdS h
    replace hF := hF.trans ((Tape_put_fr h1).mono (by decide))
    cases h; exact hF
set_option maxRecDepth 100000 in
theorem B_end_fr {a1 : Int32} {μ : Mem} {r : Int32} {μ' : Mem} (h : B_end a1 μ = some (r, μ')) : Fr [1001] μ μ' := by
  unfold B_end at h
  have hF : Fr [1001] μ μ := Fr.refl
  rcases iteS h with h | h
  · obtain ⟨_, _, h⟩ := bdS h
    cases h; exact hF
  · rcases iteS h with h | h
    · obtain ⟨_, _, h⟩ := bdS h
      cases h; exact hF
    · obtain ⟨μ1, h1, h⟩ := bdS h
      replace hF := fr_mSI (by decide) hF h1
      obtain ⟨_, _, h⟩ := bdS h
      cases h; exact hF
set_option maxRecDepth 100000 in
theorem Pages_clearRow_l1_fr {μo : Mem} : ∀ {n : Nat} {v1 : Int32} {μ : Mem}, Pages_clearRow_l1 n v1 μ = some μo → Fr [702, 706, 707, 709, 710] μ μo := by
  intro n
  induction n with
  | zero => intro v1 μ h; exact noS h
  | succ n ih =>
    intro v1 μ h
    replace h : Pages_clearRow_l1b (Pages_clearRow_l1 n) v1 μ = some μo := h
    unfold Pages_clearRow_l1b at h
    have hF : Fr [702, 706, 707, 709, 710] μ μ := Fr.refl
    rcases iteS h with h | h
    · obtain ⟨_, _, h⟩ := bdS h
      obtain ⟨μ2, h1, h⟩ := bdS h
      replace hF := fr_mWr (by decide) hF h1
      obtain ⟨_, _, h⟩ := bdS h
      exact hF.trans (ih h)
    · cases h; exact hF
set_option maxRecDepth 100000 in
theorem Pages_clearRow_fr {μ : Mem} {μ' : Mem} (h : Pages_clearRow μ = some μ') : Fr [702, 706, 707, 709, 710] μ μ' := by
  unfold Pages_clearRow at h
  have hF : Fr [702, 706, 707, 709, 710] μ μ := Fr.refl
  obtain ⟨μ1, h1, h⟩ := bdS h
  replace hF := fr_mWr (by decide) hF h1
  obtain ⟨μ2, h1, h⟩ := bdS h
  replace hF := fr_mWr (by decide) hF h1
  obtain ⟨μ3, h1, h⟩ := bdS h
  replace hF := fr_mWr (by decide) hF h1
  obtain ⟨μ4, h1, h⟩ := bdS h
  replace hF := fr_mWr (by decide) hF h1
  obtain ⟨μ5, h1, h⟩ := bdS h
  replace hF := hF.trans ((Pages_clearRow_l1_fr h1).mono (by decide))
  cases h; exact hF
set_option maxRecDepth 100000 in
theorem Tape_begin_fr {μ : Mem} {μ' : Mem} (h : Tape_begin μ = some μ') : Fr [1002, 1003] μ μ' := by
  unfold Tape_begin at h
  have hF : Fr [1002, 1003] μ μ := Fr.refl
  obtain ⟨μ1, h1, h⟩ := bdS h
  replace hF := fr_mSI (by decide) hF h1
  obtain ⟨μ2, h1, h⟩ := bdS h
  replace hF := fr_mSI (by decide) hF h1
  cases h; exact hF
set_option maxRecDepth 100000 in
theorem Tape_look_l1_fr {μo : Mem} : ∀ {n : Nat} {v1 : Int32} {μ : Mem}, Tape_look_l1 n v1 μ = some μo → Fr [1002] μ μo := by
  intro n
  induction n with
  | zero => intro v1 μ h; exact noS h
  | succ n ih =>
    intro v1 μ h
    replace h : Tape_look_l1b (Tape_look_l1 n) v1 μ = some μo := h
    unfold Tape_look_l1b at h
    have hF : Fr [1002] μ μ := Fr.refl
    rcases iteS h with h | h
    · obtain ⟨_, _, h⟩ := bdS h
      rcases iteS h with h | h
      · obtain ⟨μ2, h1, h⟩ := bdS h
        replace hF := fr_mSI (by decide) hF h1
        obtain ⟨_, _, h⟩ := bdS h
        exact hF.trans (ih h)
      · cases h; exact hF
    · cases h; exact hF
set_option maxRecDepth 100000 in
theorem Tape_look_fr {μ : Mem} {r : Int32} {μ' : Mem} (h : Tape_look μ = some (r, μ')) : Fr [1002] μ μ' := by
  unfold Tape_look at h
  have hF : Fr [1002] μ μ := Fr.refl
  obtain ⟨_, _, h⟩ := bdS h
  obtain ⟨μ2, h1, h⟩ := bdS h
  replace hF := hF.trans ((Tape_look_l1_fr h1).mono (by decide))
  rcases iteS h with h | h
  · obtain ⟨_, _, h⟩ := bdS h
    cases h; exact hF
  · cases h; exact hF
set_option maxRecDepth 100000 in
theorem Tape_wrongHere_fr {μ : Mem} {r : Int32} {μ' : Mem} (h : Tape_wrongHere μ = some (r, μ')) : Fr [1003] μ μ' := by
  unfold Tape_wrongHere at h
  have hF : Fr [1003] μ μ := Fr.refl
  obtain ⟨μ1, h1, h⟩ := bdS h
  replace hF := fr_mSI (by decide) hF h1
  obtain ⟨_, _, h⟩ := bdS h
  cases h; exact hF
set_option maxRecDepth 100000 in
theorem Tape_step_fr {μ : Mem} {μ' : Mem} (h : Tape_step μ = some μ') : Fr [1002] μ μ' := by
  unfold Tape_step at h
  have hF : Fr [1002] μ μ := Fr.refl
  rcases iteS h with h | h
  · obtain ⟨μ1, h1, h⟩ := bdS h
    replace hF := fr_mSI (by decide) hF h1
    cases h; exact hF
  · cases h; exact hF
set_option maxRecDepth 100000 in
theorem Tape_readNumber_l1_fr {v3 : Int32} {o1 : Int32} {μo : Mem} : ∀ {n : Nat} {v2 : Int32} {μ : Mem}, Tape_readNumber_l1 v3 n v2 μ = some (o1, μo) → Fr [1002, 1003] μ μo := by
  intro n
  induction n with
  | zero => intro v2 μ h; exact noS h
  | succ n ih =>
    intro v2 μ h
    replace h : Tape_readNumber_l1b v3 (Tape_readNumber_l1 v3 n) v2 μ = some (o1, μo) := h
    unfold Tape_readNumber_l1b at h
    have hF : Fr [1002, 1003] μ μ := Fr.refl
    rcases iteS h with h | h
    · obtain ⟨_, _, h⟩ := bdS h
      obtain ⟨_, _, h⟩ := bdS h
      rcases iteS h with h | h
      · cases h; exact hF
      · obtain ⟨_, _, h⟩ := bdS h
        obtain ⟨_, _, h⟩ := bdS h
        obtain ⟨μ5, h1, h⟩ := bdS h
        replace hF := fr_mSI (by decide) hF h1
        exact hF.trans (ih h)
    · cases h; exact hF
set_option maxRecDepth 100000 in
theorem Tape_readNumber_fr {a1 : Int32} {μ : Mem} {r : Int32} {μ' : Mem} (h : Tape_readNumber a1 μ = some (r, μ')) : Fr [1002, 1003] μ μ' := by
  unfold Tape_readNumber at h
  have hF : Fr [1002, 1003] μ μ := Fr.refl
  obtain ⟨⟨x1, μ2⟩, h1, h⟩ := bdS h
  replace hF := hF.trans ((Tape_look_fr h1).mono (by decide))
  obtain ⟨_, _, h⟩ := bdS h
  obtain ⟨x4, _, h⟩ := bdS h
  obtain ⟨_, _, h⟩ := bdS h
  obtain ⟨⟨x6, μ7⟩, h1, h⟩ := bdS h
  replace hF := hF.trans ((Tape_readNumber_l1_fr h1).mono (by decide))
  rcases iteS h with h | h
  · obtain ⟨μ8, h1, h⟩ := bdS h
    replace hF := fr_mSI (by decide) hF h1
    cases h; exact hF
  · rcases iteS h with h | h
    · obtain ⟨_, _, h⟩ := bdS h
      obtain ⟨_, _, h⟩ := bdS h
      rcases iteS h with h | h
      · cases h; exact hF
      · obtain ⟨μ11, h1, h⟩ := bdS h
        replace hF := fr_mSI (by decide) hF h1
        cases h; exact hF
    · cases h; exact hF
set_option maxRecDepth 100000 in
theorem Tape_wrongBefore_fr {μ : Mem} {r : Int32} {μ' : Mem} (h : Tape_wrongBefore μ = some (r, μ')) : Fr [1003] μ μ' := by
  unfold Tape_wrongBefore at h
  have hF : Fr [1003] μ μ := Fr.refl
  obtain ⟨μ1, h1, h⟩ := bdS h
  replace hF := fr_mSI (by decide) hF h1
  obtain ⟨_, _, h⟩ := bdS h
  cases h; exact hF
set_option maxRecDepth 100000 in
theorem Tape_takes_fr {a1 : Int32} {μ : Mem} {r : Int32} {μ' : Mem} (h : Tape_takes a1 μ = some (r, μ')) : Fr [1002] μ μ' := by
  unfold Tape_takes at h
  have hF : Fr [1002] μ μ := Fr.refl
  obtain ⟨⟨x1, μ2⟩, h1, h⟩ := bdS h
  replace hF := hF.trans ((Tape_look_fr h1).mono (by decide))
  rcases iteS h with h | h
  · rcases iteS h with h | h
    · obtain ⟨μ3, h1, h⟩ := bdS h
      replace hF := fr_mSI (by decide) hF h1
      obtain ⟨_, _, h⟩ := bdS h
      cases h; exact hF
    · obtain ⟨_, _, h⟩ := bdS h
      cases h; exact hF
  · obtain ⟨_, _, h⟩ := bdS h
    cases h; exact hF
set_option maxRecDepth 100000 in
theorem Pages_readsParts_fr {a1 : Int32} {μ : Mem} {r : Int32} {μ' : Mem} (h : Pages_readsParts a1 μ = some (r, μ')) : Fr [704, 705, 1002, 1003] μ μ' := by
  unfold Pages_readsParts at h
  have hF : Fr [704, 705, 1002, 1003] μ μ := Fr.refl
  obtain ⟨⟨x1, μ2⟩, h1, h⟩ := bdS h
  replace hF := hF.trans ((Tape_readNumber_fr h1).mono (by decide))
  rcases iteS h with h | h
  · obtain ⟨_, _, h⟩ := bdS h
    cases h; exact hF
  · rcases iteS h with h | h
    · obtain ⟨⟨x16, μ17⟩, h1, h⟩ := bdS h
      replace hF := hF.trans ((Tape_wrongBefore_fr h1).mono (by decide))
      obtain ⟨_, _, h⟩ := bdS h
      cases h; exact hF
    · obtain ⟨⟨x3, μ4⟩, h1, h⟩ := bdS h
      replace hF := hF.trans ((Tape_takes_fr h1).mono (by decide))
      obtain ⟨k11, hkk11, h⟩ := kE h
      have Jk11 : ∀ (x9 : Int32), ∀ (μ10 : Mem), Fr [704, 705, 1002, 1003] μ μ10 → k11 x9 μ10 = some (r, μ') → Fr [704, 705, 1002, 1003] μ μ' := by
        clear h hF
        intro x9 μ10 hF h
        rw [hkk11] at h
        obtain ⟨_, _, h⟩ := bdS h
        obtain ⟨μ13, h1, h⟩ := bdS h
        replace hF := fr_mWr (by decide) hF h1
        obtain ⟨_, _, h⟩ := bdS h
        obtain ⟨μ15, h1, h⟩ := bdS h
        replace hF := fr_mWr (by decide) hF h1
        obtain ⟨_, _, h⟩ := bdS h
        cases h; exact hF
      rcases iteS h with h | h
      · exact Jk11 _ _ hF h
      · obtain ⟨⟨x5, μ6⟩, h1, h⟩ := bdS h
        replace hF := hF.trans ((Tape_readNumber_fr h1).mono (by decide))
        rcases iteS h with h | h
        · obtain ⟨_, _, h⟩ := bdS h
          cases h; exact hF
        · rcases iteS h with h | h
          · obtain ⟨⟨x7, μ8⟩, h1, h⟩ := bdS h
            replace hF := hF.trans ((Tape_wrongBefore_fr h1).mono (by decide))
            obtain ⟨_, _, h⟩ := bdS h
            cases h; exact hF
          · exact Jk11 _ _ hF h
set_option maxRecDepth 100000 in
theorem Pages_readsThing_fr {μ : Mem} {r : Int32} {μ' : Mem} (h : Pages_readsThing μ = some (r, μ')) : Fr [702, 703, 704, 705, 706, 707, 1002, 1003] μ μ' := by
  unfold Pages_readsThing at h
  have hF : Fr [702, 703, 704, 705, 706, 707, 1002, 1003] μ μ := Fr.refl
  obtain ⟨⟨x1, μ2⟩, h1, h⟩ := bdS h
  replace hF := hF.trans ((Tape_look_fr h1).mono (by decide))
  obtain ⟨_, _, h⟩ := bdS h
  obtain ⟨_, _, h⟩ := bdS h
  rcases iteS h with h | h
  · obtain ⟨⟨x5, μ6⟩, h1, h⟩ := bdS h
    replace hF := hF.trans ((Tape_wrongHere_fr h1).mono (by decide))
    obtain ⟨_, _, h⟩ := bdS h
    cases h; exact hF
  · obtain ⟨_, _, h⟩ := bdS h
    obtain ⟨_, _, h⟩ := bdS h
    rcases iteS h with h | h
    · obtain ⟨μ9, h1, h⟩ := bdS h
      replace hF := hF.trans ((Tape_step_fr h1).mono (by decide))
      obtain ⟨_, _, h⟩ := bdS h
      obtain ⟨_, _, h⟩ := bdS h
      obtain ⟨μ12, h1, h⟩ := bdS h
      replace hF := fr_mWr (by decide) hF h1
      obtain ⟨_, _, h⟩ := bdS h
      obtain ⟨μ14, h1, h⟩ := bdS h
      replace hF := fr_mWr (by decide) hF h1
      obtain ⟨_, _, h⟩ := bdS h
      obtain ⟨μ16, h1, h⟩ := bdS h
      replace hF := fr_mWr (by decide) hF h1
      obtain ⟨μ17, h1, h⟩ := bdS h
      replace hF := fr_mWr (by decide) hF h1
      obtain ⟨_, _, h⟩ := bdS h
      obtain ⟨μ19, h1, h⟩ := bdS h
      replace hF := fr_mWr (by decide) hF h1
      obtain ⟨⟨x20, μ21⟩, h1, h⟩ := bdS h
      replace hF := hF.trans ((Tape_look_fr h1).mono (by decide))
      obtain ⟨_, _, h⟩ := bdS h
      rcases iteS h with h | h
      · obtain ⟨_, _, h⟩ := bdS h
        obtain ⟨μ24, h1, h⟩ := bdS h
        replace hF := fr_mWr (by decide) hF h1
        obtain ⟨_, _, h⟩ := bdS h
        cases h; exact hF
      · obtain ⟨⟨x25, μ26⟩, h1, h⟩ := bdS h
        replace hF := hF.trans ((Pages_readsParts_fr h1).mono (by decide))
        obtain ⟨_, _, h⟩ := bdS h
        cases h; exact hF
    · obtain ⟨⟨x27, μ28⟩, h1, h⟩ := bdS h
      replace hF := hF.trans ((Tape_wrongHere_fr h1).mono (by decide))
      obtain ⟨_, _, h⟩ := bdS h
      cases h; exact hF
set_option maxRecDepth 100000 in
theorem Pages_readsThings_l1_fr {r : Int32} {μ' : Mem} : ∀ {n : Nat} {v1 : Int32} {μ : Mem}, Pages_readsThings_l1 n v1 μ = some (r, μ') → Fr [702, 703, 704, 705, 706, 707, 1002, 1003] μ μ' := by
  intro n
  induction n with
  | zero => intro v1 μ h; exact noS h
  | succ n ih =>
    intro v1 μ h
    replace h : Pages_readsThings_l1b (Pages_readsThings_l1 n) v1 μ = some (r, μ') := h
    unfold Pages_readsThings_l1b at h
    have hF : Fr [702, 703, 704, 705, 706, 707, 1002, 1003] μ μ := Fr.refl
    rcases iteS h with h | h
    · obtain ⟨⟨x5, μ6⟩, h1, h⟩ := bdS h
      replace hF := hF.trans ((Pages_readsThing_fr h1).mono (by decide))
      rcases iteS h with h | h
      · obtain ⟨_, _, h⟩ := bdS h
        cases h; exact hF
      · obtain ⟨⟨x7, μ8⟩, h1, h⟩ := bdS h
        replace hF := hF.trans ((Tape_takes_fr h1).mono (by decide))
        rcases iteS h with h | h
        · obtain ⟨_, _, h⟩ := bdS h
          cases h; exact hF
        · obtain ⟨_, _, h⟩ := bdS h
          exact hF.trans (ih h)
    · obtain ⟨⟨x1, μ2⟩, h1, h⟩ := bdS h
      replace hF := hF.trans ((Tape_look_fr h1).mono (by decide))
      obtain ⟨⟨x3, μ4⟩, h1, h⟩ := bdS h
      replace hF := hF.trans ((Tape_wrongHere_fr h1).mono (by decide))
      obtain ⟨_, _, h⟩ := bdS h
      cases h; exact hF
set_option maxRecDepth 100000 in
theorem Pages_readsThings_fr {μ : Mem} {r : Int32} {μ' : Mem} (h : Pages_readsThings μ = some (r, μ')) : Fr [702, 703, 704, 705, 706, 707, 1002, 1003] μ μ' := by
  unfold Pages_readsThings at h
  have hF : Fr [702, 703, 704, 705, 706, 707, 1002, 1003] μ μ := Fr.refl
  exact hF.trans ((Pages_readsThings_l1_fr h).mono (by decide))
set_option maxRecDepth 100000 in
theorem Pages_putAct_l1_fr {v1 : Int32} {v2 : Int32} {μo : Mem} : ∀ {n : Nat} {v3 : Int32} {μ : Mem}, Pages_putAct_l1 v1 v2 n v3 μ = some μo → Fr [708, 709, 710] μ μo := by
  intro n
  induction n with
  | zero => intro v3 μ h; exact noS h
  | succ n ih =>
    intro v3 μ h
    replace h : Pages_putAct_l1b v1 v2 (Pages_putAct_l1 v1 v2 n) v3 μ = some μo := h
    unfold Pages_putAct_l1b at h
    have hF : Fr [708, 709, 710] μ μ := Fr.refl
    rcases iteS h with h | h
    · obtain ⟨_, _, h⟩ := bdS h
      rcases iteS h with h | h
      · obtain ⟨_, _, h⟩ := bdS h
        obtain ⟨_, _, h⟩ := bdS h
        obtain ⟨μ4, h1, h⟩ := bdS h
        replace hF := fr_mWr (by decide) hF h1
        obtain ⟨_, _, h⟩ := bdS h
        obtain ⟨μ6, h1, h⟩ := bdS h
        replace hF := fr_mWr (by decide) hF h1
        obtain ⟨_, _, h⟩ := bdS h
        exact hF.trans (ih h)
      · cases h; exact hF
    · cases h; exact hF
set_option maxRecDepth 100000 in
theorem Pages_putAct_fr {a1 : Int32} {a2 : Int32} {μ : Mem} {μ' : Mem} (h : Pages_putAct a1 a2 μ = some μ') : Fr [708, 709, 710] μ μ' := by
  unfold Pages_putAct at h
  have hF : Fr [708, 709, 710] μ μ := Fr.refl
  obtain ⟨_, _, h⟩ := bdS h
  obtain ⟨_, _, h⟩ := bdS h
  obtain ⟨μ3, h1, h⟩ := bdS h
  replace hF := fr_mWr (by decide) hF h1
  obtain ⟨μ4, h1, h⟩ := bdS h
  replace hF := hF.trans ((Pages_putAct_l1_fr h1).mono (by decide))
  cases h; exact hF
set_option maxRecDepth 100000 in
theorem Pages_readsActs_l1_fr {r : Int32} {μ' : Mem} : ∀ {n : Nat} {v1 : Int32} {μ : Mem}, Pages_readsActs_l1 n v1 μ = some (r, μ') → Fr [708, 709, 710, 1002, 1003] μ μ' := by
  intro n
  induction n with
  | zero => intro v1 μ h; exact noS h
  | succ n ih =>
    intro v1 μ h
    replace h : Pages_readsActs_l1b (Pages_readsActs_l1 n) v1 μ = some (r, μ') := h
    unfold Pages_readsActs_l1b at h
    have hF : Fr [708, 709, 710, 1002, 1003] μ μ := Fr.refl
    rcases iteS h with h | h
    · obtain ⟨⟨x5, μ6⟩, h1, h⟩ := bdS h
      replace hF := hF.trans ((Tape_look_fr h1).mono (by decide))
      obtain ⟨k7, hkk7, h⟩ := kE h
      have Jk7 : Fr [708, 709, 710, 1002, 1003] μ μ6 → k7 () = some (r, μ') → Fr [708, 709, 710, 1002, 1003] μ μ' := by
        clear h hF
        intro hF h
        rw [hkk7] at h
        obtain ⟨_, _, h⟩ := bdS h
        rcases iteS h with h | h
        · obtain ⟨⟨x21, μ22⟩, h1, h⟩ := bdS h
          replace hF := hF.trans ((Tape_wrongHere_fr h1).mono (by decide))
          obtain ⟨_, _, h⟩ := bdS h
          cases h; exact hF
        · obtain ⟨μ9, h1, h⟩ := bdS h
          replace hF := hF.trans ((Tape_step_fr h1).mono (by decide))
          obtain ⟨⟨x10, μ11⟩, h1, h⟩ := bdS h
          replace hF := hF.trans ((Tape_look_fr h1).mono (by decide))
          obtain ⟨_, _, h⟩ := bdS h
          obtain ⟨⟨x17, μ18⟩, hj, h⟩ := bdS h
          replace hF : Fr [708, 709, 710, 1002, 1003] μ μ18 := by
            clear h
            replace h := hj
            clear hj
            rcases iteS h with h | h
            · cases h; exact hF
            · obtain ⟨⟨x13, μ14⟩, h1, h⟩ := bdS h
              replace hF := hF.trans ((Tape_look_fr h1).mono (by decide))
              obtain ⟨_, _, h⟩ := bdS h
              obtain ⟨μ16, h1, h⟩ := bdS h
              replace hF := hF.trans ((Tape_step_fr h1).mono (by decide))
              cases h; exact hF
          obtain ⟨μ19, h1, h⟩ := bdS h
          replace hF := hF.trans ((Pages_putAct_fr h1).mono (by decide))
          obtain ⟨_, _, h⟩ := bdS h
          exact hF.trans (ih h)
      rcases iteS h with h | h
      · rcases iteS h with h | h
        · obtain ⟨_, _, h⟩ := bdS h
          cases h; exact hF
        · exact Jk7 hF h
      · exact Jk7 hF h
    · obtain ⟨⟨x1, μ2⟩, h1, h⟩ := bdS h
      replace hF := hF.trans ((Tape_look_fr h1).mono (by decide))
      rcases iteS h with h | h
      · obtain ⟨_, _, h⟩ := bdS h
        cases h; exact hF
      · obtain ⟨⟨x3, μ4⟩, h1, h⟩ := bdS h
        replace hF := hF.trans ((Tape_wrongHere_fr h1).mono (by decide))
        rcases iteS h with h | h
        · obtain ⟨_, _, h⟩ := bdS h
          cases h; exact hF
        · obtain ⟨_, _, h⟩ := bdS h
          cases h; exact hF
set_option maxRecDepth 100000 in
theorem Pages_readsActs_fr {μ : Mem} {r : Int32} {μ' : Mem} (h : Pages_readsActs μ = some (r, μ')) : Fr [708, 709, 710, 1002, 1003] μ μ' := by
  unfold Pages_readsActs at h
  have hF : Fr [708, 709, 710, 1002, 1003] μ μ := Fr.refl
  exact hF.trans ((Pages_readsActs_l1_fr h).mono (by decide))
set_option maxRecDepth 100000 in
theorem Pages_readsTape_fr {μ : Mem} {r : Int32} {μ' : Mem} (h : Pages_readsTape μ = some (r, μ')) : Fr [702, 703, 704, 705, 706, 707, 708, 709, 710, 1002, 1003] μ μ' := by
  unfold Pages_readsTape at h
  have hF : Fr [702, 703, 704, 705, 706, 707, 708, 709, 710, 1002, 1003] μ μ := Fr.refl
  obtain ⟨μ1, h1, h⟩ := bdS h
  replace hF := hF.trans ((Pages_clearRow_fr h1).mono (by decide))
  obtain ⟨μ2, h1, h⟩ := bdS h
  replace hF := hF.trans ((Tape_begin_fr h1).mono (by decide))
  obtain ⟨⟨x3, μ4⟩, h1, h⟩ := bdS h
  replace hF := hF.trans ((Pages_readsThings_fr h1).mono (by decide))
  rcases iteS h with h | h
  · obtain ⟨_, _, h⟩ := bdS h
    cases h; exact hF
  · obtain ⟨⟨x5, μ6⟩, h1, h⟩ := bdS h
    replace hF := hF.trans ((Tape_takes_fr h1).mono (by decide))
    rcases iteS h with h | h
    · obtain ⟨⟨x7, μ8⟩, h1, h⟩ := bdS h
      replace hF := hF.trans ((Tape_look_fr h1).mono (by decide))
      rcases iteS h with h | h
      · obtain ⟨_, _, h⟩ := bdS h
        cases h; exact hF
      · obtain ⟨⟨x9, μ10⟩, h1, h⟩ := bdS h
        replace hF := hF.trans ((Tape_wrongHere_fr h1).mono (by decide))
        rcases iteS h with h | h
        · obtain ⟨_, _, h⟩ := bdS h
          cases h; exact hF
        · obtain ⟨_, _, h⟩ := bdS h
          cases h; exact hF
    · obtain ⟨⟨x11, μ12⟩, h1, h⟩ := bdS h
      replace hF := hF.trans ((Pages_readsActs_fr h1).mono (by decide))
      obtain ⟨_, _, h⟩ := bdS h
      cases h; exact hF
set_option maxRecDepth 100000 in
theorem Laws_clearRow_fr {μ : Mem} {μ' : Mem} (h : Laws_clearRow μ = some μ') : Fr [501] μ μ' := by
  unfold Laws_clearRow at h
  have hF : Fr [501] μ μ := Fr.refl
  obtain ⟨μ1, h1, h⟩ := bdS h
  replace hF := fr_mWr (by decide) hF h1
  cases h; exact hF
set_option maxRecDepth 100000 in
theorem Laws_emit_fr {a1 : Int32} {μ : Mem} {μ' : Mem} (h : Laws_emit a1 μ = some μ') : Fr [500, 501] μ μ' := by
  unfold Laws_emit at h
  have hF : Fr [500, 501] μ μ := Fr.refl
  obtain ⟨_, _, h⟩ := bdS h
  rcases iteS h with h | h
  · obtain ⟨_, _, h⟩ := bdS h
    obtain ⟨μ3, h1, h⟩ := bdS h
    replace hF := fr_mWr (by decide) hF h1
    obtain ⟨μ4, h1, h⟩ := bdS h
    replace hF := fr_mWr (by decide) hF h1
    cases h; exact hF
  · cases h; exact hF
set_option maxRecDepth 100000 in
theorem LawReader_sum_l1_fr {r_LawReader_term : Int32 → Mem → Option (Int32 × Mem)} (fh_LawReader_term : ∀ {a1 : Int32} {μ : Mem} {r : Int32} {μ' : Mem}, r_LawReader_term a1 μ = some (r, μ') → Fr [500, 501, 1002, 1003] μ μ') {v1 : Int32} {r : Int32} {μ' : Mem} : ∀ {n : Nat} {v2 : Int32} {μ : Mem}, LawReader_sum_l1 r_LawReader_term v1 n v2 μ = some (r, μ') → Fr [500, 501, 1002, 1003] μ μ' := by
  intro n
  induction n with
  | zero => intro v2 μ h; exact noS h
  | succ n ih =>
    intro v2 μ h
    replace h : LawReader_sum_l1b r_LawReader_term v1 (LawReader_sum_l1 r_LawReader_term v1 n) v2 μ = some (r, μ') := h
    unfold LawReader_sum_l1b at h
    have hF : Fr [500, 501, 1002, 1003] μ μ := Fr.refl
    rcases iteS h with h | h
    · obtain ⟨⟨x3, μ4⟩, h1, h⟩ := bdS h
      replace hF := hF.trans ((Tape_look_fr h1).mono (by decide))
      obtain ⟨k5, hkk5, h⟩ := kE h
      have Jk5 : Fr [500, 501, 1002, 1003] μ μ4 → k5 () = some (r, μ') → Fr [500, 501, 1002, 1003] μ μ' := by
        clear h hF
        intro hF h
        rw [hkk5] at h
        obtain ⟨μ6, h1, h⟩ := bdS h
        replace hF := hF.trans ((Tape_step_fr h1).mono (by decide))
        obtain ⟨⟨x7, μ8⟩, h1, h⟩ := bdS h
        replace hF := hF.trans ((fh_LawReader_term h1).mono (by decide))
        rcases iteS h with h | h
        · obtain ⟨_, _, h⟩ := bdS h
          cases h; exact hF
        · obtain ⟨x9, _, h⟩ := bdS h
          obtain ⟨μ10, h1, h⟩ := bdS h
          replace hF := hF.trans ((Laws_emit_fr h1).mono (by decide))
          obtain ⟨_, _, h⟩ := bdS h
          exact hF.trans (ih h)
      rcases iteS h with h | h
      · exact Jk5 hF h
      · rcases iteS h with h | h
        · exact Jk5 hF h
        · obtain ⟨_, _, h⟩ := bdS h
          cases h; exact hF
    · obtain ⟨⟨x1, μ2⟩, h1, h⟩ := bdS h
      replace hF := hF.trans ((Tape_wrongHere_fr h1).mono (by decide))
      obtain ⟨_, _, h⟩ := bdS h
      cases h; exact hF
set_option maxRecDepth 100000 in
theorem LawReader_sum_B_fr {r_LawReader_term : Int32 → Mem → Option (Int32 × Mem)} (fh_LawReader_term : ∀ {a1 : Int32} {μ : Mem} {r : Int32} {μ' : Mem}, r_LawReader_term a1 μ = some (r, μ') → Fr [500, 501, 1002, 1003] μ μ') {a1 : Int32} {μ : Mem} {r : Int32} {μ' : Mem} (h : LawReader_sum_B r_LawReader_term a1 μ = some (r, μ')) : Fr [500, 501, 1002, 1003] μ μ' := by
  unfold LawReader_sum_B at h
  have hF : Fr [500, 501, 1002, 1003] μ μ := Fr.refl
  obtain ⟨⟨x1, μ2⟩, h1, h⟩ := bdS h
  replace hF := hF.trans ((fh_LawReader_term h1).mono (by decide))
  rcases iteS h with h | h
  · obtain ⟨_, _, h⟩ := bdS h
    cases h; exact hF
  · exact hF.trans ((LawReader_sum_l1_fr fh_LawReader_term h).mono (by decide))
set_option maxRecDepth 100000 in
theorem LawReader_term_l1_fr {r_LawReader_atom : Int32 → Mem → Option (Int32 × Mem)} (fh_LawReader_atom : ∀ {a1 : Int32} {μ : Mem} {r : Int32} {μ' : Mem}, r_LawReader_atom a1 μ = some (r, μ') → Fr [500, 501, 1002, 1003] μ μ') {v1 : Int32} {r : Int32} {μ' : Mem} : ∀ {n : Nat} {v2 : Int32} {μ : Mem}, LawReader_term_l1 r_LawReader_atom v1 n v2 μ = some (r, μ') → Fr [500, 501, 1002, 1003] μ μ' := by
  intro n
  induction n with
  | zero => intro v2 μ h; exact noS h
  | succ n ih =>
    intro v2 μ h
    replace h : LawReader_term_l1b r_LawReader_atom v1 (LawReader_term_l1 r_LawReader_atom v1 n) v2 μ = some (r, μ') := h
    unfold LawReader_term_l1b at h
    have hF : Fr [500, 501, 1002, 1003] μ μ := Fr.refl
    rcases iteS h with h | h
    · obtain ⟨⟨x3, μ4⟩, h1, h⟩ := bdS h
      replace hF := hF.trans ((Tape_look_fr h1).mono (by decide))
      obtain ⟨k5, hkk5, h⟩ := kE h
      have Jk5 : Fr [500, 501, 1002, 1003] μ μ4 → k5 () = some (r, μ') → Fr [500, 501, 1002, 1003] μ μ' := by
        clear h hF
        intro hF h
        rw [hkk5] at h
        obtain ⟨μ6, h1, h⟩ := bdS h
        replace hF := hF.trans ((Tape_step_fr h1).mono (by decide))
        obtain ⟨⟨x7, μ8⟩, h1, h⟩ := bdS h
        replace hF := hF.trans ((fh_LawReader_atom h1).mono (by decide))
        rcases iteS h with h | h
        · obtain ⟨_, _, h⟩ := bdS h
          cases h; exact hF
        · obtain ⟨x9, _, h⟩ := bdS h
          obtain ⟨μ10, h1, h⟩ := bdS h
          replace hF := hF.trans ((Laws_emit_fr h1).mono (by decide))
          obtain ⟨_, _, h⟩ := bdS h
          exact hF.trans (ih h)
      rcases iteS h with h | h
      · exact Jk5 hF h
      · rcases iteS h with h | h
        · exact Jk5 hF h
        · obtain ⟨_, _, h⟩ := bdS h
          cases h; exact hF
    · obtain ⟨⟨x1, μ2⟩, h1, h⟩ := bdS h
      replace hF := hF.trans ((Tape_wrongHere_fr h1).mono (by decide))
      obtain ⟨_, _, h⟩ := bdS h
      cases h; exact hF
set_option maxRecDepth 100000 in
theorem LawReader_term_B_fr {r_LawReader_atom : Int32 → Mem → Option (Int32 × Mem)} (fh_LawReader_atom : ∀ {a1 : Int32} {μ : Mem} {r : Int32} {μ' : Mem}, r_LawReader_atom a1 μ = some (r, μ') → Fr [500, 501, 1002, 1003] μ μ') {a1 : Int32} {μ : Mem} {r : Int32} {μ' : Mem} (h : LawReader_term_B r_LawReader_atom a1 μ = some (r, μ')) : Fr [500, 501, 1002, 1003] μ μ' := by
  unfold LawReader_term_B at h
  have hF : Fr [500, 501, 1002, 1003] μ μ := Fr.refl
  obtain ⟨⟨x1, μ2⟩, h1, h⟩ := bdS h
  replace hF := hF.trans ((fh_LawReader_atom h1).mono (by decide))
  rcases iteS h with h | h
  · obtain ⟨_, _, h⟩ := bdS h
    cases h; exact hF
  · exact hF.trans ((LawReader_term_l1_fr fh_LawReader_atom h).mono (by decide))
set_option maxRecDepth 100000 in
theorem LawReader_atom_B_fr {r_LawReader_sum : Int32 → Mem → Option (Int32 × Mem)} (fh_LawReader_sum : ∀ {a1 : Int32} {μ : Mem} {r : Int32} {μ' : Mem}, r_LawReader_sum a1 μ = some (r, μ') → Fr [500, 501, 1002, 1003] μ μ') {a1 : Int32} {μ : Mem} {r : Int32} {μ' : Mem} (h : LawReader_atom_B r_LawReader_sum a1 μ = some (r, μ')) : Fr [500, 501, 1002, 1003] μ μ' := by
  unfold LawReader_atom_B at h
  have hF : Fr [500, 501, 1002, 1003] μ μ := Fr.refl
  obtain ⟨⟨x1, μ2⟩, h1, h⟩ := bdS h
  replace hF := hF.trans ((Tape_look_fr h1).mono (by decide))
  obtain ⟨_, _, h⟩ := bdS h
  rcases iteS h with h | h
  · obtain ⟨_, _, h⟩ := bdS h
    rcases iteS h with h | h
    · rcases iteS h with h | h
      · rcases iteS h with h | h
        · obtain ⟨μ7, h1, h⟩ := bdS h
          replace hF := hF.trans ((Tape_step_fr h1).mono (by decide))
          obtain ⟨⟨x8, μ9⟩, h1, h⟩ := bdS h
          replace hF := hF.trans ((fh_LawReader_sum h1).mono (by decide))
          rcases iteS h with h | h
          · obtain ⟨_, _, h⟩ := bdS h
            cases h; exact hF
          · obtain ⟨⟨x10, μ11⟩, h1, h⟩ := bdS h
            replace hF := hF.trans ((Tape_takes_fr h1).mono (by decide))
            rcases iteS h with h | h
            · obtain ⟨⟨x12, μ13⟩, h1, h⟩ := bdS h
              replace hF := hF.trans ((Tape_wrongHere_fr h1).mono (by decide))
              rcases iteS h with h | h
              · obtain ⟨_, _, h⟩ := bdS h
                cases h; exact hF
              · obtain ⟨_, _, h⟩ := bdS h
                cases h; exact hF
            · obtain ⟨_, _, h⟩ := bdS h
              cases h; exact hF
        · obtain ⟨⟨x14, μ15⟩, h1, h⟩ := bdS h
          replace hF := hF.trans ((Tape_wrongHere_fr h1).mono (by decide))
          obtain ⟨_, _, h⟩ := bdS h
          cases h; exact hF
      · obtain ⟨⟨x5, μ6⟩, h1, h⟩ := bdS h
        replace hF := hF.trans ((Tape_wrongHere_fr h1).mono (by decide))
        obtain ⟨_, _, h⟩ := bdS h
        cases h; exact hF
    · obtain ⟨μ16, h1, h⟩ := bdS h
      replace hF := hF.trans ((Tape_step_fr h1).mono (by decide))
      obtain ⟨μ17, h1, h⟩ := bdS h
      replace hF := hF.trans ((Laws_emit_fr h1).mono (by decide))
      obtain ⟨_, _, h⟩ := bdS h
      cases h; exact hF
  · obtain ⟨⟨x18, μ19⟩, h1, h⟩ := bdS h
    replace hF := hF.trans ((Tape_readNumber_fr h1).mono (by decide))
    obtain ⟨μ20, h1, h⟩ := bdS h
    replace hF := hF.trans ((Laws_emit_fr h1).mono (by decide))
    rcases iteS h with h | h
    · obtain ⟨_, _, h⟩ := bdS h
      cases h; exact hF
    · obtain ⟨_, _, h⟩ := bdS h
      cases h; exact hF
theorem G_LawReader_sum_fr : ∀ n : Nat, (∀ {a1 : Int32} {μ : Mem} {r : Int32} {μ' : Mem}, LawReader_sum n a1 μ = some (r, μ') → Fr [500, 501, 1002, 1003] μ μ') ∧ (∀ {a1 : Int32} {μ : Mem} {r : Int32} {μ' : Mem}, LawReader_term n a1 μ = some (r, μ') → Fr [500, 501, 1002, 1003] μ μ') ∧ (∀ {a1 : Int32} {μ : Mem} {r : Int32} {μ' : Mem}, LawReader_atom n a1 μ = some (r, μ') → Fr [500, 501, 1002, 1003] μ μ') := by
  intro n
  induction n with
  | zero => exact ⟨fun h => noS h, fun h => noS h, fun h => noS h⟩
  | succ n ih =>
    obtain ⟨fh_LawReader_sum, fh_LawReader_term, fh_LawReader_atom⟩ := ih
    refine ⟨?_, ?_, ?_⟩
    · intro a1 μ r μ' h
      rw [LawReader_sum_s] at h
      exact LawReader_sum_B_fr fh_LawReader_term h
    · intro a1 μ r μ' h
      rw [LawReader_term_s] at h
      exact LawReader_term_B_fr fh_LawReader_atom h
    · intro a1 μ r μ' h
      rw [LawReader_atom_s] at h
      exact LawReader_atom_B_fr fh_LawReader_sum h

theorem LawReader_sum_fr {n : Nat} {a1 : Int32} {μ : Mem} {r : Int32} {μ' : Mem} (h : LawReader_sum n a1 μ = some (r, μ')) : Fr [500, 501, 1002, 1003] μ μ' := (G_LawReader_sum_fr n).1 h
theorem LawReader_term_fr {n : Nat} {a1 : Int32} {μ : Mem} {r : Int32} {μ' : Mem} (h : LawReader_term n a1 μ = some (r, μ')) : Fr [500, 501, 1002, 1003] μ μ' := (G_LawReader_sum_fr n).2.1 h
theorem LawReader_atom_fr {n : Nat} {a1 : Int32} {μ : Mem} {r : Int32} {μ' : Mem} (h : LawReader_atom n a1 μ = some (r, μ')) : Fr [500, 501, 1002, 1003] μ μ' := (G_LawReader_sum_fr n).2.2 h
set_option maxRecDepth 100000 in
theorem LawReader_condition_l1_fr {r_LawReader_truth : Int32 → Int32 → Mem → Option (Int32 × Mem)} (fh_LawReader_truth : ∀ {a1 : Int32} {a2 : Int32} {μ : Mem} {r : Int32} {μ' : Mem}, r_LawReader_truth a1 a2 μ = some (r, μ') → Fr [500, 501, 1002, 1003] μ μ') {v1 : Int32} {r : Int32} {μ' : Mem} : ∀ {n : Nat} {v3 : Int32} {μ : Mem}, LawReader_condition_l1 r_LawReader_truth v1 n v3 μ = some (r, μ') → Fr [500, 501, 1002, 1003] μ μ' := by
  intro n
  induction n with
  | zero => intro v3 μ h; exact noS h
  | succ n ih =>
    intro v3 μ h
    replace h : LawReader_condition_l1b r_LawReader_truth v1 (LawReader_condition_l1 r_LawReader_truth v1 n) v3 μ = some (r, μ') := h
    unfold LawReader_condition_l1b at h
    have hF : Fr [500, 501, 1002, 1003] μ μ := Fr.refl
    rcases iteS h with h | h
    · obtain ⟨⟨x1, μ2⟩, h1, h⟩ := bdS h
      replace hF := hF.trans ((Tape_takes_fr h1).mono (by decide))
      rcases iteS h with h | h
      · obtain ⟨_, _, h⟩ := bdS h
        cases h; exact hF
      · obtain ⟨⟨x3, μ4⟩, h1, h⟩ := bdS h
        replace hF := hF.trans ((fh_LawReader_truth h1).mono (by decide))
        rcases iteS h with h | h
        · obtain ⟨_, _, h⟩ := bdS h
          cases h; exact hF
        · obtain ⟨μ5, h1, h⟩ := bdS h
          replace hF := hF.trans ((Laws_emit_fr h1).mono (by decide))
          obtain ⟨_, _, h⟩ := bdS h
          exact hF.trans (ih h)
    · obtain ⟨_, _, h⟩ := bdS h
      cases h; exact hF
set_option maxRecDepth 100000 in
theorem LawReader_condition_B_fr {r_LawReader_truth : Int32 → Int32 → Mem → Option (Int32 × Mem)} (fh_LawReader_truth : ∀ {a1 : Int32} {a2 : Int32} {μ : Mem} {r : Int32} {μ' : Mem}, r_LawReader_truth a1 a2 μ = some (r, μ') → Fr [500, 501, 1002, 1003] μ μ') {a1 : Int32} {a2 : Int32} {μ : Mem} {r : Int32} {μ' : Mem} (h : LawReader_condition_B r_LawReader_truth a1 a2 μ = some (r, μ')) : Fr [500, 501, 1002, 1003] μ μ' := by
  unfold LawReader_condition_B at h
  have hF : Fr [500, 501, 1002, 1003] μ μ := Fr.refl
  obtain ⟨⟨x1, μ2⟩, h1, h⟩ := bdS h
  replace hF := hF.trans ((fh_LawReader_truth h1).mono (by decide))
  rcases iteS h with h | h
  · obtain ⟨_, _, h⟩ := bdS h
    cases h; exact hF
  · exact hF.trans ((LawReader_condition_l1_fr fh_LawReader_truth h).mono (by decide))
set_option maxRecDepth 100000 in
theorem LawReader_truth_l1_fr {r_LawReader_unit : Int32 → Int32 → Mem → Option (Int32 × Mem)} (fh_LawReader_unit : ∀ {a1 : Int32} {a2 : Int32} {μ : Mem} {r : Int32} {μ' : Mem}, r_LawReader_unit a1 a2 μ = some (r, μ') → Fr [500, 501, 1002, 1003] μ μ') {v1 : Int32} {r : Int32} {μ' : Mem} : ∀ {n : Nat} {v3 : Int32} {μ : Mem}, LawReader_truth_l1 r_LawReader_unit v1 n v3 μ = some (r, μ') → Fr [500, 501, 1002, 1003] μ μ' := by
  intro n
  induction n with
  | zero => intro v3 μ h; exact noS h
  | succ n ih =>
    intro v3 μ h
    replace h : LawReader_truth_l1b r_LawReader_unit v1 (LawReader_truth_l1 r_LawReader_unit v1 n) v3 μ = some (r, μ') := h
    unfold LawReader_truth_l1b at h
    have hF : Fr [500, 501, 1002, 1003] μ μ := Fr.refl
    rcases iteS h with h | h
    · obtain ⟨⟨x1, μ2⟩, h1, h⟩ := bdS h
      replace hF := hF.trans ((Tape_takes_fr h1).mono (by decide))
      rcases iteS h with h | h
      · obtain ⟨_, _, h⟩ := bdS h
        cases h; exact hF
      · obtain ⟨⟨x3, μ4⟩, h1, h⟩ := bdS h
        replace hF := hF.trans ((fh_LawReader_unit h1).mono (by decide))
        rcases iteS h with h | h
        · obtain ⟨_, _, h⟩ := bdS h
          cases h; exact hF
        · obtain ⟨μ5, h1, h⟩ := bdS h
          replace hF := hF.trans ((Laws_emit_fr h1).mono (by decide))
          obtain ⟨_, _, h⟩ := bdS h
          exact hF.trans (ih h)
    · obtain ⟨_, _, h⟩ := bdS h
      cases h; exact hF
set_option maxRecDepth 100000 in
theorem LawReader_truth_B_fr {r_LawReader_unit : Int32 → Int32 → Mem → Option (Int32 × Mem)} (fh_LawReader_unit : ∀ {a1 : Int32} {a2 : Int32} {μ : Mem} {r : Int32} {μ' : Mem}, r_LawReader_unit a1 a2 μ = some (r, μ') → Fr [500, 501, 1002, 1003] μ μ') {a1 : Int32} {a2 : Int32} {μ : Mem} {r : Int32} {μ' : Mem} (h : LawReader_truth_B r_LawReader_unit a1 a2 μ = some (r, μ')) : Fr [500, 501, 1002, 1003] μ μ' := by
  unfold LawReader_truth_B at h
  have hF : Fr [500, 501, 1002, 1003] μ μ := Fr.refl
  obtain ⟨⟨x1, μ2⟩, h1, h⟩ := bdS h
  replace hF := hF.trans ((fh_LawReader_unit h1).mono (by decide))
  rcases iteS h with h | h
  · obtain ⟨_, _, h⟩ := bdS h
    cases h; exact hF
  · exact hF.trans ((LawReader_truth_l1_fr fh_LawReader_unit h).mono (by decide))
set_option maxRecDepth 100000 in
theorem LawReader_unit_B_fr {r_LawReader_opened : Int32 → Mem → Option (Int32 × Mem)} (fh_LawReader_opened : ∀ {a1 : Int32} {μ : Mem} {r : Int32} {μ' : Mem}, r_LawReader_opened a1 μ = some (r, μ') → Fr [500, 501, 1002, 1003] μ μ') {a1 : Int32} {a2 : Int32} {μ : Mem} {r : Int32} {μ' : Mem} (h : LawReader_unit_B r_LawReader_opened a1 a2 μ = some (r, μ')) : Fr [500, 501, 1002, 1003] μ μ' := by
  unfold LawReader_unit_B at h
  have hF : Fr [500, 501, 1002, 1003] μ μ := Fr.refl
  obtain ⟨k7, hkk7, h⟩ := kE h
  have Jk7 : ∀ (μ6 : Mem), Fr [500, 501, 1002, 1003] μ μ6 → k7 μ6 = some (r, μ') → Fr [500, 501, 1002, 1003] μ μ' := by
    clear h hF
    intro μ6 hF h
    rw [hkk7] at h
    obtain ⟨k11, hkk11, h⟩ := kE h
    have Jk11 : ∀ (μ10 : Mem), Fr [500, 501, 1002, 1003] μ μ10 → k11 μ10 = some (r, μ') → Fr [500, 501, 1002, 1003] μ μ' := by
      clear h hF
      intro μ10 hF h
      rw [hkk11] at h
      obtain ⟨⟨x12, μ13⟩, h1, h⟩ := bdS h
      replace hF := hF.trans ((Tape_look_fr h1).mono (by decide))
      obtain ⟨_, _, h⟩ := bdS h
      rcases iteS h with h | h
      · obtain ⟨⟨x19, μ20⟩, h1, h⟩ := bdS h
        replace hF := hF.trans ((Tape_wrongHere_fr h1).mono (by decide))
        obtain ⟨_, _, h⟩ := bdS h
        cases h; exact hF
      · obtain ⟨μ15, h1, h⟩ := bdS h
        replace hF := hF.trans ((Tape_step_fr h1).mono (by decide))
        obtain ⟨⟨x16, μ17⟩, h1, h⟩ := bdS h
        replace hF := hF.trans ((LawReader_sum_fr h1).mono (by decide))
        rcases iteS h with h | h
        · obtain ⟨_, _, h⟩ := bdS h
          cases h; exact hF
        · obtain ⟨μ18, h1, h⟩ := bdS h
          replace hF := hF.trans ((Laws_emit_fr h1).mono (by decide))
          obtain ⟨_, _, h⟩ := bdS h
          cases h; exact hF
    rcases iteS h with h | h
    · obtain ⟨⟨x8, μ9⟩, h1, h⟩ := bdS h
      replace hF := hF.trans ((LawReader_sum_fr h1).mono (by decide))
      rcases iteS h with h | h
      · obtain ⟨_, _, h⟩ := bdS h
        cases h; exact hF
      · exact Jk11 _ hF h
    · exact Jk11 _ hF h
  rcases iteS h with h | h
  · obtain ⟨⟨x1, μ2⟩, h1, h⟩ := bdS h
    replace hF := hF.trans ((Tape_look_fr h1).mono (by decide))
    obtain ⟨_, _, h⟩ := bdS h
    rcases iteS h with h | h
    · exact Jk7 _ hF h
    · obtain ⟨⟨x4, μ5⟩, h1, h⟩ := bdS h
      replace hF := hF.trans ((fh_LawReader_opened h1).mono (by decide))
      obtain ⟨_, _, h⟩ := bdS h
      cases h; exact hF
  · exact Jk7 _ hF h
set_option maxRecDepth 100000 in
theorem LawReader_opened_B_fr {r_LawReader_condition : Int32 → Int32 → Mem → Option (Int32 × Mem)} {r_LawReader_unit : Int32 → Int32 → Mem → Option (Int32 × Mem)} (fh_LawReader_condition : ∀ {a1 : Int32} {a2 : Int32} {μ : Mem} {r : Int32} {μ' : Mem}, r_LawReader_condition a1 a2 μ = some (r, μ') → Fr [500, 501, 1002, 1003] μ μ') (fh_LawReader_unit : ∀ {a1 : Int32} {a2 : Int32} {μ : Mem} {r : Int32} {μ' : Mem}, r_LawReader_unit a1 a2 μ = some (r, μ') → Fr [500, 501, 1002, 1003] μ μ') {a1 : Int32} {μ : Mem} {r : Int32} {μ' : Mem} (h : LawReader_opened_B r_LawReader_condition r_LawReader_unit a1 μ = some (r, μ')) : Fr [500, 501, 1002, 1003] μ μ' := by
  unfold LawReader_opened_B at h
  have hF : Fr [500, 501, 1002, 1003] μ μ := Fr.refl
  rcases iteS h with h | h
  · obtain ⟨⟨x1, μ2⟩, h1, h⟩ := bdS h
    replace hF := hF.trans ((Tape_takes_fr h1).mono (by decide))
    rcases iteS h with h | h
    · obtain ⟨μ3, h1, h⟩ := bdS h
      replace hF := hF.trans ((Tape_step_fr h1).mono (by decide))
      obtain ⟨⟨x4, μ5⟩, h1, h⟩ := bdS h
      replace hF := hF.trans ((fh_LawReader_unit h1).mono (by decide))
      rcases iteS h with h | h
      · obtain ⟨_, _, h⟩ := bdS h
        cases h; exact hF
      · obtain ⟨μ6, h1, h⟩ := bdS h
        replace hF := hF.trans ((Laws_emit_fr h1).mono (by decide))
        obtain ⟨_, _, h⟩ := bdS h
        cases h; exact hF
    · obtain ⟨⟨x7, μ8⟩, h1, h⟩ := bdS h
      replace hF := hF.trans ((fh_LawReader_condition h1).mono (by decide))
      rcases iteS h with h | h
      · obtain ⟨_, _, h⟩ := bdS h
        cases h; exact hF
      · obtain ⟨⟨x9, μ10⟩, h1, h⟩ := bdS h
        replace hF := hF.trans ((Tape_takes_fr h1).mono (by decide))
        rcases iteS h with h | h
        · obtain ⟨⟨x11, μ12⟩, h1, h⟩ := bdS h
          replace hF := hF.trans ((Tape_wrongHere_fr h1).mono (by decide))
          rcases iteS h with h | h
          · obtain ⟨_, _, h⟩ := bdS h
            cases h; exact hF
          · obtain ⟨_, _, h⟩ := bdS h
            cases h; exact hF
        · obtain ⟨_, _, h⟩ := bdS h
          cases h; exact hF
  · obtain ⟨⟨x13, μ14⟩, h1, h⟩ := bdS h
    replace hF := hF.trans ((Tape_wrongHere_fr h1).mono (by decide))
    obtain ⟨_, _, h⟩ := bdS h
    cases h; exact hF
theorem G_LawReader_condition_fr : ∀ n : Nat, (∀ {a1 : Int32} {a2 : Int32} {μ : Mem} {r : Int32} {μ' : Mem}, LawReader_condition n a1 a2 μ = some (r, μ') → Fr [500, 501, 1002, 1003] μ μ') ∧ (∀ {a1 : Int32} {a2 : Int32} {μ : Mem} {r : Int32} {μ' : Mem}, LawReader_truth n a1 a2 μ = some (r, μ') → Fr [500, 501, 1002, 1003] μ μ') ∧ (∀ {a1 : Int32} {a2 : Int32} {μ : Mem} {r : Int32} {μ' : Mem}, LawReader_unit n a1 a2 μ = some (r, μ') → Fr [500, 501, 1002, 1003] μ μ') ∧ (∀ {a1 : Int32} {μ : Mem} {r : Int32} {μ' : Mem}, LawReader_opened n a1 μ = some (r, μ') → Fr [500, 501, 1002, 1003] μ μ') := by
  intro n
  induction n with
  | zero => exact ⟨fun h => noS h, fun h => noS h, fun h => noS h, fun h => noS h⟩
  | succ n ih =>
    obtain ⟨fh_LawReader_condition, fh_LawReader_truth, fh_LawReader_unit, fh_LawReader_opened⟩ := ih
    refine ⟨?_, ?_, ?_, ?_⟩
    · intro a1 a2 μ r μ' h
      rw [LawReader_condition_s] at h
      exact LawReader_condition_B_fr fh_LawReader_truth h
    · intro a1 a2 μ r μ' h
      rw [LawReader_truth_s] at h
      exact LawReader_truth_B_fr fh_LawReader_unit h
    · intro a1 a2 μ r μ' h
      rw [LawReader_unit_s] at h
      exact LawReader_unit_B_fr fh_LawReader_opened h
    · intro a1 μ r μ' h
      rw [LawReader_opened_s] at h
      exact LawReader_opened_B_fr fh_LawReader_condition fh_LawReader_unit h

theorem LawReader_condition_fr {n : Nat} {a1 : Int32} {a2 : Int32} {μ : Mem} {r : Int32} {μ' : Mem} (h : LawReader_condition n a1 a2 μ = some (r, μ')) : Fr [500, 501, 1002, 1003] μ μ' := (G_LawReader_condition_fr n).1 h
theorem LawReader_truth_fr {n : Nat} {a1 : Int32} {a2 : Int32} {μ : Mem} {r : Int32} {μ' : Mem} (h : LawReader_truth n a1 a2 μ = some (r, μ')) : Fr [500, 501, 1002, 1003] μ μ' := (G_LawReader_condition_fr n).2.1 h
theorem LawReader_unit_fr {n : Nat} {a1 : Int32} {a2 : Int32} {μ : Mem} {r : Int32} {μ' : Mem} (h : LawReader_unit n a1 a2 μ = some (r, μ')) : Fr [500, 501, 1002, 1003] μ μ' := (G_LawReader_condition_fr n).2.2.1 h
theorem LawReader_opened_fr {n : Nat} {a1 : Int32} {μ : Mem} {r : Int32} {μ' : Mem} (h : LawReader_opened n a1 μ = some (r, μ')) : Fr [500, 501, 1002, 1003] μ μ' := (G_LawReader_condition_fr n).2.2.2 h
set_option maxRecDepth 100000 in
theorem Laws_aim_fr {a1 : Int32} {μ : Mem} {μ' : Mem} (h : Laws_aim a1 μ = some μ') : Fr [500] μ μ' := by
  unfold Laws_aim at h
  have hF : Fr [500] μ μ := Fr.refl
  rcases iteS h with h | h
  · cases h; exact hF
  · obtain ⟨_, _, h⟩ := bdS h
    rcases iteS h with h | h
    · obtain ⟨_, _, h⟩ := bdS h
      obtain ⟨_, _, h⟩ := bdS h
      obtain ⟨μ4, h1, h⟩ := bdS h
      replace hF := fr_mWr (by decide) hF h1
      cases h; exact hF
    · cases h; exact hF
set_option maxRecDepth 100000 in
theorem LawReader_conditioned_fr {μ : Mem} {r : Int32} {μ' : Mem} (h : LawReader_conditioned μ = some (r, μ')) : Fr [500, 501, 1002, 1003] μ μ' := by
  unfold LawReader_conditioned at h
  have hF : Fr [500, 501, 1002, 1003] μ μ := Fr.refl
  obtain ⟨⟨x1, μ2⟩, h1, h⟩ := bdS h
  replace hF := hF.trans ((Tape_takes_fr h1).mono (by decide))
  rcases iteS h with h | h
  · obtain ⟨⟨x10, μ11⟩, h1, h⟩ := bdS h
    replace hF := hF.trans ((Tape_wrongHere_fr h1).mono (by decide))
    obtain ⟨_, _, h⟩ := bdS h
    cases h; exact hF
  · obtain ⟨μ3, h1, h⟩ := bdS h
    replace hF := hF.trans ((Laws_emit_fr h1).mono (by decide))
    obtain ⟨_, _, h⟩ := bdS h
    obtain ⟨μ5, h1, h⟩ := bdS h
    replace hF := hF.trans ((Laws_emit_fr h1).mono (by decide))
    obtain ⟨⟨x6, μ7⟩, h1, h⟩ := bdS h
    replace hF := hF.trans ((LawReader_sum_fr h1).mono (by decide))
    rcases iteS h with h | h
    · obtain ⟨_, _, h⟩ := bdS h
      cases h; exact hF
    · obtain ⟨μ8, h1, h⟩ := bdS h
      replace hF := hF.trans ((Laws_emit_fr h1).mono (by decide))
      obtain ⟨μ9, h1, h⟩ := bdS h
      replace hF := hF.trans ((Laws_aim_fr h1).mono (by decide))
      obtain ⟨_, _, h⟩ := bdS h
      cases h; exact hF
set_option maxRecDepth 100000 in
theorem LawReader_clause_fr {μ : Mem} {r : Int32} {μ' : Mem} (h : LawReader_clause μ = some (r, μ')) : Fr [500, 501, 1002, 1003] μ μ' := by
  unfold LawReader_clause at h
  have hF : Fr [500, 501, 1002, 1003] μ μ := Fr.refl
  obtain ⟨⟨x1, μ2⟩, h1, h⟩ := bdS h
  replace hF := hF.trans ((Tape_takes_fr h1).mono (by decide))
  rcases iteS h with h | h
  · obtain ⟨⟨x3, μ4⟩, h1, h⟩ := bdS h
    replace hF := hF.trans ((Tape_wrongHere_fr h1).mono (by decide))
    obtain ⟨_, _, h⟩ := bdS h
    cases h; exact hF
  · obtain ⟨⟨x5, μ6⟩, h1, h⟩ := bdS h
    replace hF := hF.trans ((Tape_takes_fr h1).mono (by decide))
    rcases iteS h with h | h
    · obtain ⟨⟨x23, μ24⟩, h1, h⟩ := bdS h
      replace hF := hF.trans ((Tape_wrongHere_fr h1).mono (by decide))
      obtain ⟨_, _, h⟩ := bdS h
      cases h; exact hF
    · obtain ⟨⟨x7, μ8⟩, h1, h⟩ := bdS h
      replace hF := hF.trans ((Tape_look_fr h1).mono (by decide))
      obtain ⟨_, _, h⟩ := bdS h
      obtain ⟨k17, hkk17, h⟩ := kE h
      have Jk17 : ∀ (μ16 : Mem), Fr [500, 501, 1002, 1003] μ μ16 → k17 μ16 = some (r, μ') → Fr [500, 501, 1002, 1003] μ μ' := by
        clear h hF
        intro μ16 hF h
        rw [hkk17] at h
        obtain ⟨x18, _, h⟩ := bdS h
        obtain ⟨⟨x19, μ20⟩, h1, h⟩ := bdS h
        replace hF := hF.trans ((LawReader_condition_fr h1).mono (by decide))
        rcases iteS h with h | h
        · obtain ⟨_, _, h⟩ := bdS h
          cases h; exact hF
        · obtain ⟨⟨x21, μ22⟩, h1, h⟩ := bdS h
          replace hF := hF.trans ((LawReader_conditioned_fr h1).mono (by decide))
          rcases iteS h with h | h
          · obtain ⟨_, _, h⟩ := bdS h
            cases h; exact hF
          · obtain ⟨_, _, h⟩ := bdS h
            cases h; exact hF
      rcases iteS h with h | h
      · obtain ⟨⟨x10, μ11⟩, h1, h⟩ := bdS h
        replace hF := hF.trans ((LawReader_sum_fr h1).mono (by decide))
        rcases iteS h with h | h
        · obtain ⟨_, _, h⟩ := bdS h
          cases h; exact hF
        · obtain ⟨⟨x12, μ13⟩, h1, h⟩ := bdS h
          replace hF := hF.trans ((Tape_look_fr h1).mono (by decide))
          obtain ⟨_, _, h⟩ := bdS h
          rcases iteS h with h | h
          · obtain ⟨μ15, h1, h⟩ := bdS h
            replace hF := hF.trans ((Laws_emit_fr h1).mono (by decide))
            obtain ⟨_, _, h⟩ := bdS h
            cases h; exact hF
          · exact Jk17 _ hF h
      · exact Jk17 _ hF h
set_option maxRecDepth 100000 in
theorem LawReader_readsTape_l1_fr {r : Int32} {μ' : Mem} : ∀ {n : Nat} {v1 : Int32} {μ : Mem}, LawReader_readsTape_l1 n v1 μ = some (r, μ') → Fr [500, 501, 1002, 1003] μ μ' := by
  intro n
  induction n with
  | zero => intro v1 μ h; exact noS h
  | succ n ih =>
    intro v1 μ h
    replace h : LawReader_readsTape_l1b (LawReader_readsTape_l1 n) v1 μ = some (r, μ') := h
    unfold LawReader_readsTape_l1b at h
    have hF : Fr [500, 501, 1002, 1003] μ μ := Fr.refl
    rcases iteS h with h | h
    · obtain ⟨⟨x3, μ4⟩, h1, h⟩ := bdS h
      replace hF := hF.trans ((LawReader_clause_fr h1).mono (by decide))
      rcases iteS h with h | h
      · obtain ⟨_, _, h⟩ := bdS h
        cases h; exact hF
      · obtain ⟨⟨x5, μ6⟩, h1, h⟩ := bdS h
        replace hF := hF.trans ((Tape_takes_fr h1).mono (by decide))
        rcases iteS h with h | h
        · obtain ⟨⟨x8, μ9⟩, h1, h⟩ := bdS h
          replace hF := hF.trans ((Tape_look_fr h1).mono (by decide))
          rcases iteS h with h | h
          · obtain ⟨_, _, h⟩ := bdS h
            cases h; exact hF
          · obtain ⟨⟨x10, μ11⟩, h1, h⟩ := bdS h
            replace hF := hF.trans ((Tape_wrongHere_fr h1).mono (by decide))
            rcases iteS h with h | h
            · obtain ⟨_, _, h⟩ := bdS h
              cases h; exact hF
            · obtain ⟨_, _, h⟩ := bdS h
              cases h; exact hF
        · obtain ⟨_, _, h⟩ := bdS h
          exact hF.trans (ih h)
    · obtain ⟨⟨x1, μ2⟩, h1, h⟩ := bdS h
      replace hF := hF.trans ((Tape_wrongHere_fr h1).mono (by decide))
      obtain ⟨_, _, h⟩ := bdS h
      cases h; exact hF
set_option maxRecDepth 100000 in
theorem LawReader_readsTape_fr {μ : Mem} {r : Int32} {μ' : Mem} (h : LawReader_readsTape μ = some (r, μ')) : Fr [500, 501, 1002, 1003] μ μ' := by
  unfold LawReader_readsTape at h
  have hF : Fr [500, 501, 1002, 1003] μ μ := Fr.refl
  obtain ⟨μ1, h1, h⟩ := bdS h
  replace hF := hF.trans ((Laws_clearRow_fr h1).mono (by decide))
  obtain ⟨μ2, h1, h⟩ := bdS h
  replace hF := hF.trans ((Tape_begin_fr h1).mono (by decide))
  exact hF.trans ((LawReader_readsTape_l1_fr h).mono (by decide))
set_option maxRecDepth 100000 in
theorem B_fault_fr {a1 : Int32} {μ : Mem} {r : Int32} {μ' : Mem} (h : B_fault a1 μ = some (r, μ')) : Fr [500, 501, 702, 703, 704, 705, 706, 707, 708, 709, 710, 1002, 1003] μ μ' := by
  unfold B_fault at h
  have hF : Fr [500, 501, 702, 703, 704, 705, 706, 707, 708, 709, 710, 1002, 1003] μ μ := Fr.refl
  obtain ⟨k1, hkk1, h⟩ := kE h
  have Jk1 : Fr [500, 501, 702, 703, 704, 705, 706, 707, 708, 709, 710, 1002, 1003] μ μ → k1 () = some (r, μ') → Fr [500, 501, 702, 703, 704, 705, 706, 707, 708, 709, 710, 1002, 1003] μ μ' := by
    clear h hF
    intro hF h
    rw [hkk1] at h
    obtain ⟨⟨x6, μ7⟩, hj, h⟩ := bdS h
    replace hF : Fr [500, 501, 702, 703, 704, 705, 706, 707, 708, 709, 710, 1002, 1003] μ μ7 := by
      clear h
      replace h := hj
      clear hj
      rcases iteS h with h | h
      · obtain ⟨⟨x4, μ5⟩, h1, h⟩ := bdS h
        replace hF := hF.trans ((Pages_readsTape_fr h1).mono (by decide))
        cases h; exact hF
      · obtain ⟨⟨x2, μ3⟩, h1, h⟩ := bdS h
        replace hF := hF.trans ((LawReader_readsTape_fr h1).mono (by decide))
        cases h; exact hF
    rcases iteS h with h | h
    · cases h; exact hF
    · cases h; exact hF
  rcases iteS h with h | h
  · exact Jk1 hF h
  · rcases iteS h with h | h
    · exact Jk1 hF h
    · cases h; exact hF
set_option maxRecDepth 100000 in
theorem Kin_actChanges_l1_fr {v1 : Int32} {v2 : Int32} {v3 : Int32} {μo : Mem} : ∀ {n : Nat} {v4 : Int32} {μ : Mem}, Kin_actChanges_l1 v1 v2 v3 n v4 μ = some μo → Fr [304] μ μo := by
  intro n
  induction n with
  | zero => intro v4 μ h; exact noS h
  | succ n ih =>
    intro v4 μ h
    replace h : Kin_actChanges_l1b v1 v2 v3 (Kin_actChanges_l1 v1 v2 v3 n) v4 μ = some μo := h
    unfold Kin_actChanges_l1b at h
    have hF : Fr [304] μ μ := Fr.refl
    rcases iteS h with h | h
    · cases h; exact hF
    · obtain ⟨μ1, h1, h⟩ := bdS h
      replace hF := fr_mWr (by decide) hF h1
      obtain ⟨_, _, h⟩ := bdS h
      exact hF.trans (ih h)
set_option maxRecDepth 100000 in
theorem Kin_actChanges_l3_fr {v1 : Int32} {v2 : Int32} {v3 : Int32} {v4 : Int32} {μo : Mem} : ∀ {n : Nat} {v5 : Int32} {v6 : Int32} {μ : Mem}, Kin_actChanges_l3 v1 v2 v3 v4 n v5 v6 μ = some μo → Fr [304] μ μo := by
  intro n
  induction n with
  | zero => intro v5 v6 μ h; exact noS h
  | succ n ih =>
    intro v5 v6 μ h
    replace h : Kin_actChanges_l3b v1 v2 v3 v4 (Kin_actChanges_l3 v1 v2 v3 v4 n) v5 v6 μ = some μo := h
    unfold Kin_actChanges_l3b at h
    have hF : Fr [304] μ μ := Fr.refl
    rcases iteS h with h | h
    · cases h; exact hF
    · obtain ⟨_, _, h⟩ := bdS h
      obtain ⟨_, _, h⟩ := bdS h
      obtain ⟨_, _, h⟩ := bdS h
      obtain ⟨_, _, h⟩ := bdS h
      obtain ⟨x5, _, h⟩ := bdS h
      obtain ⟨x6, _, h⟩ := bdS h
      obtain ⟨_, _, h⟩ := bdS h
      obtain ⟨_, _, h⟩ := bdS h
      obtain ⟨_, _, h⟩ := bdS h
      obtain ⟨μ10, h1, h⟩ := bdS h
      replace hF := fr_mWr (by decide) hF h1
      obtain ⟨_, _, h⟩ := bdS h
      exact hF.trans (ih h)
set_option maxRecDepth 100000 in
theorem Kin_actChanges_l2_fr {v1 : Int32} {v2 : Int32} {v3 : Int32} {μo : Mem} : ∀ {n : Nat} {v4 : Int32} {μ : Mem}, Kin_actChanges_l2 v1 v2 v3 n v4 μ = some μo → Fr [304] μ μo := by
  intro n
  induction n with
  | zero => intro v4 μ h; exact noS h
  | succ n ih =>
    intro v4 μ h
    replace h : Kin_actChanges_l2b v1 v2 v3 (Kin_actChanges_l2 v1 v2 v3 n) v4 μ = some μo := h
    unfold Kin_actChanges_l2b at h
    have hF : Fr [304] μ μ := Fr.refl
    obtain ⟨_, _, h⟩ := bdS h
    rcases iteS h with h | h
    · cases h; exact hF
    · obtain ⟨_, _, h⟩ := bdS h
      obtain ⟨μ3, h1, h⟩ := bdS h
      replace hF := fr_mWr (by decide) hF h1
      obtain ⟨μ4, h1, h⟩ := bdS h
      replace hF := hF.trans ((Kin_actChanges_l3_fr h1).mono (by decide))
      obtain ⟨_, _, h⟩ := bdS h
      exact hF.trans (ih h)
set_option maxRecDepth 100000 in
theorem Kin_actChanges_fr {a1 : Int32} {a2 : Int32} {μ : Mem} {r : Int32} {μ' : Mem} (h : Kin_actChanges a1 a2 μ = some (r, μ')) : Fr [304] μ μ' := by
  unfold Kin_actChanges at h
  have hF : Fr [304] μ μ := Fr.refl
  obtain ⟨_, _, h⟩ := bdS h
  obtain ⟨μ2, h1, h⟩ := bdS h
  replace hF := hF.trans ((Kin_actChanges_l1_fr h1).mono (by decide))
  obtain ⟨μ3, h1, h⟩ := bdS h
  replace hF := hF.trans ((Kin_actChanges_l2_fr h1).mono (by decide))
  obtain ⟨_, _, h⟩ := bdS h
  cases h; exact hF
set_option maxRecDepth 100000 in
theorem Kin_join_l1_fr {v1 : Int32} {μo : Mem} : ∀ {n : Nat} {v2 : Int32} {μ : Mem}, Kin_join_l1 v1 n v2 μ = some μo → Fr [301, 302, 303, 304] μ μo := by
  intro n
  induction n with
  | zero => intro v2 μ h; exact noS h
  | succ n ih =>
    intro v2 μ h
    replace h : Kin_join_l1b v1 (Kin_join_l1 v1 n) v2 μ = some μo := h
    unfold Kin_join_l1b at h
    have hF : Fr [301, 302, 303, 304] μ μ := Fr.refl
    rcases iteS h with h | h
    · obtain ⟨⟨x1, μ2⟩, h1, h⟩ := bdS h
      replace hF := hF.trans ((Kin_actChanges_fr h1).mono (by decide))
      obtain ⟨_, _, h⟩ := bdS h
      obtain ⟨_, _, h⟩ := bdS h
      obtain ⟨_, _, h⟩ := bdS h
      obtain ⟨_, _, h⟩ := bdS h
      obtain ⟨_, _, h⟩ := bdS h
      obtain ⟨μ8, h1, h⟩ := bdS h
      replace hF := fr_mWr (by decide) hF h1
      obtain ⟨_, _, h⟩ := bdS h
      obtain ⟨μ10, h1, h⟩ := bdS h
      replace hF := fr_mWr (by decide) hF h1
      obtain ⟨_, _, h⟩ := bdS h
      obtain ⟨μ12, h1, h⟩ := bdS h
      replace hF := fr_mWr (by decide) hF h1
      obtain ⟨_, _, h⟩ := bdS h
      obtain ⟨μ19, hj, h⟩ := bdS h
      replace hF : Fr [301, 302, 303, 304] μ μ19 := by
        clear h
        replace h := hj
        clear hj
        rcases iteS h with h | h
        · obtain ⟨μ14, h1, h⟩ := bdS h
          replace hF := fr_mWr (by decide) hF h1
          cases h; exact hF
        · obtain ⟨_, _, h⟩ := bdS h
          obtain ⟨_, _, h⟩ := bdS h
          obtain ⟨_, _, h⟩ := bdS h
          rcases iteS h with h | h
          · obtain ⟨μ18, h1, h⟩ := bdS h
            replace hF := fr_mWr (by decide) hF h1
            cases h; exact hF
          · cases h; exact hF
      obtain ⟨_, _, h⟩ := bdS h
      exact hF.trans (ih h)
    · cases h; exact hF
set_option maxRecDepth 100000 in
theorem Kin_join_fr {a1 : Int32} {μ : Mem} {μ' : Mem} (h : Kin_join a1 μ = some μ') : Fr [301, 302, 303, 304] μ μ' := by
  unfold Kin_join at h
  have hF : Fr [301, 302, 303, 304] μ μ := Fr.refl
  obtain ⟨μ1, h1, h⟩ := bdS h
  replace hF := fr_mWr (by decide) hF h1
  obtain ⟨μ2, h1, h⟩ := bdS h
  replace hF := hF.trans ((Kin_join_l1_fr h1).mono (by decide))
  cases h; exact hF
set_option maxRecDepth 100000 in
theorem B_text_fr {a1 : Int32} {μ : Mem} {r : Int32} {μ' : Mem} (h : B_text a1 μ = some (r, μ')) : Fr [301, 302, 303, 304, 500, 501, 504, 702, 703, 704, 705, 706, 707, 708, 709, 710, 712, 1001, 1002, 1003] μ μ' := by
  unfold B_text at h
  have hF : Fr [301, 302, 303, 304, 500, 501, 504, 702, 703, 704, 705, 706, 707, 708, 709, 710, 712, 1001, 1002, 1003] μ μ := Fr.refl
  obtain ⟨k7, hkk7, h⟩ := kE h
  have Jk7 : ∀ (μ6 : Mem), Fr [301, 302, 303, 304, 500, 501, 504, 702, 703, 704, 705, 706, 707, 708, 709, 710, 712, 1001, 1002, 1003] μ μ6 → k7 μ6 = some (r, μ') → Fr [301, 302, 303, 304, 500, 501, 504, 702, 703, 704, 705, 706, 707, 708, 709, 710, 712, 1001, 1002, 1003] μ μ' := by
    clear h hF
    intro μ6 hF h
    rw [hkk7] at h
    rcases iteS h with h | h
    · rcases iteS h with h | h
      · obtain ⟨⟨x8, μ9⟩, h1, h⟩ := bdS h
        replace hF := hF.trans ((LawReader_readsTape_fr h1).mono (by decide))
        rcases iteS h with h | h
        · cases h; exact hF
        · obtain ⟨μ10, h1, h⟩ := bdS h
          replace hF := fr_mSI (by decide) hF h1
          obtain ⟨μ11, h1, h⟩ := bdS h
          replace hF := fr_mSI (by decide) hF h1
          cases h; exact hF
      · cases h; exact hF
    · cases h; exact hF
  rcases iteS h with h | h
  · rcases iteS h with h | h
    · obtain ⟨⟨x1, μ2⟩, h1, h⟩ := bdS h
      replace hF := hF.trans ((Pages_readsTape_fr h1).mono (by decide))
      rcases iteS h with h | h
      · exact Jk7 _ hF h
      · obtain ⟨μ3, h1, h⟩ := bdS h
        replace hF := fr_mSI (by decide) hF h1
        obtain ⟨μ4, h1, h⟩ := bdS h
        replace hF := fr_mSI (by decide) hF h1
        obtain ⟨μ5, h1, h⟩ := bdS h
        replace hF := hF.trans ((Kin_join_fr h1).mono (by decide))
        cases h; exact hF
    · exact Jk7 _ hF h
  · exact Jk7 _ hF h
set_option maxRecDepth 100000 in
theorem Pantry_put_fr {a1 : Int32} {a2 : Int32} {a3 : Int32} {a4 : Int32} {μ : Mem} {μ' : Mem} (h : Pantry_put a1 a2 a3 a4 μ = some μ') : Fr [800, 801, 802, 803, 808] μ μ' := by
  unfold Pantry_put at h
  have hF : Fr [800, 801, 802, 803, 808] μ μ := Fr.refl
  obtain ⟨μ1, h1, h⟩ := bdS h
  replace hF := fr_mWr (by decide) hF h1
  obtain ⟨μ2, h1, h⟩ := bdS h
  replace hF := fr_mWr (by decide) hF h1
  obtain ⟨μ3, h1, h⟩ := bdS h
  replace hF := fr_mWr (by decide) hF h1
  obtain ⟨μ4, h1, h⟩ := bdS h
  replace hF := fr_mWr (by decide) hF h1
  obtain ⟨μ5, h1, h⟩ := bdS h
  replace hF := fr_mSI (by decide) hF h1
  cases h; exact hF
set_option maxRecDepth 100000 in
theorem B_thing_fr {a1 : Int32} {a2 : Int32} {a3 : Int32} {a4 : Int32} {a5 : Int32} {a6 : Int32} {μ : Mem} {r : Int32} {μ' : Mem} (h : B_thing a1 a2 a3 a4 a5 a6 μ = some (r, μ')) : Fr [800, 801, 802, 803, 807, 808] μ μ' := by
  unfold B_thing at h
  have hF : Fr [800, 801, 802, 803, 807, 808] μ μ := Fr.refl
  obtain ⟨_, _, h⟩ := bdS h
  rcases iteS h with h | h
  · cases h; exact hF
  · obtain ⟨_, _, h⟩ := bdS h
    rcases iteS h with h | h
    · cases h; exact hF
    · obtain ⟨_, _, h⟩ := bdS h
      rcases iteS h with h | h
      · cases h; exact hF
      · obtain ⟨_, _, h⟩ := bdS h
        rcases iteS h with h | h
        · cases h; exact hF
        · obtain ⟨_, _, h⟩ := bdS h
          rcases iteS h with h | h
          · cases h; exact hF
          · rcases iteS h with h | h
            · obtain ⟨_, _, h⟩ := bdS h
              obtain ⟨μ7, h1, h⟩ := bdS h
              replace hF := hF.trans ((Pantry_put_fr h1).mono (by decide))
              obtain ⟨μ9, hj, h⟩ := bdS h
              replace hF : Fr [800, 801, 802, 803, 807, 808] μ μ9 := by
                clear h
                replace h := hj
                clear hj
                rcases iteS h with h | h
                · cases h; exact hF
                · obtain ⟨μ8, h1, h⟩ := bdS h
                  replace hF := fr_mSI (by decide) hF h1
                  cases h; exact hF
              cases h; exact hF
            · cases h; exact hF
set_option maxRecDepth 100000 in
theorem Pantry_tellSize_fr {a1 : Int32} {a2 : Int32} {a3 : Int32} {μ : Mem} {r : Int32} {μ' : Mem} (h : Pantry_tellSize a1 a2 a3 μ = some (r, μ')) : Fr [804, 805, 806] μ μ' := by
  unfold Pantry_tellSize at h
  have hF : Fr [804, 805, 806] μ μ := Fr.refl
  obtain ⟨_, _, h⟩ := bdS h
  rcases iteS h with h | h
  · obtain ⟨k4, hkk4, h⟩ := kE h
    have Jk4 : Fr [804, 805, 806] μ μ → k4 () = some (r, μ') → Fr [804, 805, 806] μ μ' := by
      clear h hF
      intro hF h
      rw [hkk4] at h
      obtain ⟨_, _, h⟩ := bdS h
      obtain ⟨μ6, h1, h⟩ := bdS h
      replace hF := fr_mWr (by decide) hF h1
      obtain ⟨_, _, h⟩ := bdS h
      obtain ⟨μ8, h1, h⟩ := bdS h
      replace hF := fr_mWr (by decide) hF h1
      obtain ⟨μ9, h1, h⟩ := bdS h
      replace hF := fr_mWr (by decide) hF h1
      cases h; exact hF
    rcases iteS h with h | h
    · obtain ⟨_, _, h⟩ := bdS h
      obtain ⟨_, _, h⟩ := bdS h
      rcases iteS h with h | h
      · exact Jk4 hF h
      · cases h; exact hF
    · exact Jk4 hF h
  · cases h; exact hF
set_option maxRecDepth 100000 in
theorem B_sized_fr {a1 : Int32} {a2 : Int32} {a3 : Int32} {μ : Mem} {r : Int32} {μ' : Mem} (h : B_sized a1 a2 a3 μ = some (r, μ')) : Fr [804, 805, 806] μ μ' := by
  unfold B_sized at h
  have hF : Fr [804, 805, 806] μ μ := Fr.refl
  obtain ⟨_, _, h⟩ := bdS h
  rcases iteS h with h | h
  · cases h; exact hF
  · obtain ⟨_, _, h⟩ := bdS h
    rcases iteS h with h | h
    · cases h; exact hF
    · obtain ⟨_, _, h⟩ := bdS h
      rcases iteS h with h | h
      · cases h; exact hF
      · obtain ⟨⟨x4, μ5⟩, h1, h⟩ := bdS h
        replace hF := hF.trans ((Pantry_tellSize_fr h1).mono (by decide))
        cases h; exact hF
set_option maxRecDepth 100000 in
theorem Pot_tellMost_fr {a1 : Int32} {μ : Mem} {μ' : Mem} (h : Pot_tellMost a1 μ = some μ') : Fr [903, 908] μ μ' := by
  unfold Pot_tellMost at h
  have hF : Fr [903, 908] μ μ := Fr.refl
  obtain ⟨μ1, h1, h⟩ := bdS h
  replace hF := fr_mSI (by decide) hF h1
  obtain ⟨μ2, h1, h⟩ := bdS h
  replace hF := fr_mSI (by decide) hF h1
  cases h; exact hF
set_option maxRecDepth 100000 in
theorem B_most_fr {a1 : Int32} {μ : Mem} {r : Int32} {μ' : Mem} (h : B_most a1 μ = some (r, μ')) : Fr [903, 908] μ μ' := by
  unfold B_most at h
  have hF : Fr [903, 908] μ μ := Fr.refl
  obtain ⟨_, _, h⟩ := bdS h
  rcases iteS h with h | h
  · obtain ⟨_, _, h⟩ := bdS h
    cases h; exact hF
  · obtain ⟨μ2, h1, h⟩ := bdS h
    replace hF := hF.trans ((Pot_tellMost_fr h1).mono (by decide))
    obtain ⟨_, _, h⟩ := bdS h
    cases h; exact hF
set_option maxRecDepth 100000 in
theorem Pot_tellHold_fr {a1 : Int32} {a2 : Int32} {a3 : Int32} {a4 : Int32} {μ : Mem} {r : Int32} {μ' : Mem} (h : Pot_tellHold a1 a2 a3 a4 μ = some (r, μ')) : Fr [904, 905, 906, 907, 908] μ μ' := by
  unfold Pot_tellHold at h
  have hF : Fr [904, 905, 906, 907, 908] μ μ := Fr.refl
  rcases iteS h with h | h
  · obtain ⟨_, _, h⟩ := bdS h
    obtain ⟨_, _, h⟩ := bdS h
    obtain ⟨x3, _, h⟩ := bdS h
    obtain ⟨_, _, h⟩ := bdS h
    obtain ⟨x7, _, h⟩ := bdS h
    obtain ⟨μ8, h1, h⟩ := bdS h
    replace hF := fr_mWr (by decide) hF h1
    obtain ⟨_, _, h⟩ := bdS h
    obtain ⟨x12, _, h⟩ := bdS h
    obtain ⟨μ13, h1, h⟩ := bdS h
    replace hF := fr_mWr (by decide) hF h1
    obtain ⟨_, _, h⟩ := bdS h
    obtain ⟨μ15, h1, h⟩ := bdS h
    replace hF := fr_mWr (by decide) hF h1
    obtain ⟨μ16, h1, h⟩ := bdS h
    replace hF := fr_mSI (by decide) hF h1
    obtain ⟨μ17, h1, h⟩ := bdS h
    replace hF := fr_mSI (by decide) hF h1
    cases h; exact hF
  · cases h; exact hF
set_option maxRecDepth 100000 in
theorem B_hold_fr {a1 : Int32} {a2 : Int32} {a3 : Int32} {a4 : Int32} {μ : Mem} {r : Int32} {μ' : Mem} (h : B_hold a1 a2 a3 a4 μ = some (r, μ')) : Fr [904, 905, 906, 907, 908] μ μ' := by
  unfold B_hold at h
  have hF : Fr [904, 905, 906, 907, 908] μ μ := Fr.refl
  obtain ⟨_, _, h⟩ := bdS h
  rcases iteS h with h | h
  · cases h; exact hF
  · obtain ⟨_, _, h⟩ := bdS h
    rcases iteS h with h | h
    · cases h; exact hF
    · rcases iteS h with h | h
      · cases h; exact hF
      · obtain ⟨_, _, h⟩ := bdS h
        rcases iteS h with h | h
        · cases h; exact hF
        · obtain ⟨_, _, h⟩ := bdS h
          rcases iteS h with h | h
          · cases h; exact hF
          · obtain ⟨⟨x5, μ6⟩, h1, h⟩ := bdS h
            replace hF := hF.trans ((Pot_tellHold_fr h1).mono (by decide))
            cases h; exact hF
set_option maxRecDepth 100000 in
theorem Pot_frame_l1_fr {v1 : Int32} {o1 : Int32} {μo : Mem} : ∀ {n : Nat} {v2 : Int32} {v3 : Int32} {μ : Mem}, Pot_frame_l1 v1 n v2 v3 μ = some (o1, μo) → Fr [914, 915, 916, 918] μ μo := by
  intro n
  induction n with
  | zero => intro v2 v3 μ h; exact noS h
  | succ n ih =>
    intro v2 v3 μ h
    replace h : Pot_frame_l1b v1 (Pot_frame_l1 v1 n) v2 v3 μ = some (o1, μo) := h
    unfold Pot_frame_l1b at h
    have hF : Fr [914, 915, 916, 918] μ μ := Fr.refl
    rcases iteS h with h | h
    · cases h; exact hF
    · rcases iteS h with h | h
      · cases h; exact hF
      · obtain ⟨_, _, h⟩ := bdS h
        obtain ⟨_, _, h⟩ := bdS h
        obtain ⟨x3, _, h⟩ := bdS h
        obtain ⟨x6, _, h⟩ := bdS h
        obtain ⟨μ7, h1, h⟩ := bdS h
        replace hF := fr_mWr (by decide) hF h1
        obtain ⟨x11, _, h⟩ := bdS h
        obtain ⟨μ12, h1, h⟩ := bdS h
        replace hF := fr_mWr (by decide) hF h1
        obtain ⟨μ13, h1, h⟩ := bdS h
        replace hF := fr_mWr (by decide) hF h1
        obtain ⟨_, _, h⟩ := bdS h
        obtain ⟨_, _, h⟩ := bdS h
        obtain ⟨_, _, h⟩ := bdS h
        exact hF.trans (ih h)
set_option maxRecDepth 100000 in
theorem Pot_frame_l2_fr {v1 : Int32} {v2 : Int32} {μo : Mem} : ∀ {n : Nat} {v3 : Int32} {μ : Mem}, Pot_frame_l2 v1 v2 n v3 μ = some μo → Fr [914, 915, 916, 918] μ μo := by
  intro n
  induction n with
  | zero => intro v3 μ h; exact noS h
  | succ n ih =>
    intro v3 μ h
    replace h : Pot_frame_l2b v1 v2 (Pot_frame_l2 v1 v2 n) v3 μ = some μo := h
    unfold Pot_frame_l2b at h
    have hF : Fr [914, 915, 916, 918] μ μ := Fr.refl
    rcases iteS h with h | h
    · obtain ⟨_, _, h⟩ := bdS h
      obtain ⟨_, _, h⟩ := bdS h
      obtain ⟨μ3, h1, h⟩ := bdS h
      replace hF := fr_mWr (by decide) hF h1
      obtain ⟨_, _, h⟩ := bdS h
      exact hF.trans (ih h)
    · cases h; exact hF
set_option maxRecDepth 100000 in
theorem Pot_frame_fr {a1 : Int32} {μ : Mem} {r : Int32} {μ' : Mem} (h : Pot_frame a1 μ = some (r, μ')) : Fr [914, 915, 916, 918] μ μ' := by
  unfold Pot_frame at h
  have hF : Fr [914, 915, 916, 918] μ μ := Fr.refl
  obtain ⟨_, _, h⟩ := bdS h
  obtain ⟨_, _, h⟩ := bdS h
  obtain ⟨⟨x3, μ4⟩, h1, h⟩ := bdS h
  replace hF := hF.trans ((Pot_frame_l1_fr h1).mono (by decide))
  obtain ⟨μ5, h1, h⟩ := bdS h
  replace hF := hF.trans ((Pot_frame_l2_fr h1).mono (by decide))
  obtain ⟨_, _, h⟩ := bdS h
  rcases iteS h with h | h
  · obtain ⟨μ7, h1, h⟩ := bdS h
    replace hF := fr_mWr (by decide) hF h1
    cases h; exact hF
  · obtain ⟨μ8, h1, h⟩ := bdS h
    replace hF := fr_mWr (by decide) hF h1
    cases h; exact hF
set_option maxRecDepth 100000 in
theorem Pot_spread_l1_fr {v1 : Int32} {o1 : Int32} {o2 : Int32} {o3 : Int32} {o4 : Int32} {μo : Mem} : ∀ {n : Nat} {v2 : Int32} {v3 : Int32} {v4 : Int32} {v5 : Int32} {v6 : Int32} {μ : Mem}, Pot_spread_l1 v1 n v2 v3 v4 v5 v6 μ = some (o1, o2, o3, o4, μo) → Fr [917, 918] μ μo := by
  intro n
  induction n with
  | zero => intro v2 v3 v4 v5 v6 μ h; exact noS h
  | succ n ih =>
    intro v2 v3 v4 v5 v6 μ h
    replace h : Pot_spread_l1b v1 (Pot_spread_l1 v1 n) v2 v3 v4 v5 v6 μ = some (o1, o2, o3, o4, μo) := h
    unfold Pot_spread_l1b at h
    have hF : Fr [917, 918] μ μ := Fr.refl
    obtain ⟨_, _, h⟩ := bdS h
    rcases iteS h with h | h
    · obtain ⟨_, _, h⟩ := bdS h
      obtain ⟨_, _, h⟩ := bdS h
      obtain ⟨_, _, h⟩ := bdS h
      obtain ⟨μ5, h1, h⟩ := bdS h
      replace hF := fr_mWr (by decide) hF h1
      obtain ⟨_, _, h⟩ := bdS h
      obtain ⟨_, _, h⟩ := bdS h
      obtain ⟨_, _, h⟩ := bdS h
      obtain ⟨_, _, h⟩ := bdS h
      obtain ⟨_, _, h⟩ := bdS h
      obtain ⟨_, _, h⟩ := bdS h
      obtain ⟨_, _, h⟩ := bdS h
      obtain ⟨_, _, h⟩ := bdS h
      exact hF.trans (ih h)
    · cases h; exact hF
set_option maxRecDepth 100000 in
theorem Pot_spread_fr {a1 : Int32} {μ : Mem} {μ' : Mem} (h : Pot_spread a1 μ = some μ') : Fr [917, 918] μ μ' := by
  unfold Pot_spread at h
  have hF : Fr [917, 918] μ μ := Fr.refl
  obtain ⟨⟨x1, x2, x3, x4, μ5⟩, h1, h⟩ := bdS h
  replace hF := hF.trans ((Pot_spread_l1_fr h1).mono (by decide))
  obtain ⟨μ6, h1, h⟩ := bdS h
  replace hF := fr_mWr (by decide) hF h1
  obtain ⟨μ7, h1, h⟩ := bdS h
  replace hF := fr_mWr (by decide) hF h1
  obtain ⟨μ8, h1, h⟩ := bdS h
  replace hF := fr_mWr (by decide) hF h1
  obtain ⟨μ9, h1, h⟩ := bdS h
  replace hF := fr_mWr (by decide) hF h1
  cases h; exact hF
set_option maxRecDepth 100000 in
theorem Laws_push_fr {a1 : Int32} {μ : Mem} {μ' : Mem} (h : Laws_push a1 μ = some μ') : Fr [502, 503] μ μ' := by
  unfold Laws_push at h
  have hF : Fr [502, 503] μ μ := Fr.refl
  rcases iteS h with h | h
  · obtain ⟨μ1, h1, h⟩ := bdS h
    replace hF := fr_mWr (by decide) hF h1
    obtain ⟨μ2, h1, h⟩ := bdS h
    replace hF := fr_mSI (by decide) hF h1
    cases h; exact hF
  · cases h; exact hF
set_option maxRecDepth 100000 in
theorem Laws_pop_fr {μ : Mem} {r : Int32} {μ' : Mem} (h : Laws_pop μ = some (r, μ')) : Fr [503] μ μ' := by
  unfold Laws_pop at h
  have hF : Fr [503] μ μ := Fr.refl
  rcases iteS h with h | h
  · obtain ⟨μ1, h1, h⟩ := bdS h
    replace hF := fr_mSI (by decide) hF h1
    obtain ⟨_, _, h⟩ := bdS h
    cases h; exact hF
  · cases h; exact hF
set_option maxRecDepth 100000 in
theorem Laws_valueOf_l1_fr {v1 : Int32} {v3 : Int32} {r : Int32} {μ' : Mem} : ∀ {n : Nat} {v4 : Int32} {v5 : Int32} {μ : Mem}, Laws_valueOf_l1 v1 v3 n v4 v5 μ = some (r, μ') → Fr [502, 503] μ μ' := by
  intro n
  induction n with
  | zero => intro v4 v5 μ h; exact noS h
  | succ n ih =>
    intro v4 v5 μ h
    replace h : Laws_valueOf_l1b v1 v3 (Laws_valueOf_l1 v1 v3 n) v4 v5 μ = some (r, μ') := h
    unfold Laws_valueOf_l1b at h
    have hF : Fr [502, 503] μ μ := Fr.refl
    rcases iteS h with h | h
    · rcases iteS h with h | h
      · obtain ⟨_, _, h⟩ := bdS h
        obtain ⟨_, _, h⟩ := bdS h
        obtain ⟨_, _, h⟩ := bdS h
        rcases iteS h with h | h
        · obtain ⟨μ28, h1, h⟩ := bdS h
          replace hF := hF.trans ((Laws_push_fr h1).mono (by decide))
          obtain ⟨_, _, h⟩ := bdS h
          exact hF.trans (ih h)
        · rcases iteS h with h | h
          · obtain ⟨x25, _, h⟩ := bdS h
            obtain ⟨μ26, h1, h⟩ := bdS h
            replace hF := hF.trans ((Laws_push_fr h1).mono (by decide))
            obtain ⟨_, _, h⟩ := bdS h
            exact hF.trans (ih h)
          · rcases iteS h with h | h
            · obtain ⟨⟨x18, μ19⟩, h1, h⟩ := bdS h
              replace hF := hF.trans ((Laws_pop_fr h1).mono (by decide))
              obtain ⟨x22, _, h⟩ := bdS h
              obtain ⟨_, _, h⟩ := bdS h
              exact hF.trans (ih h)
            · rcases iteS h with h | h
              · obtain ⟨⟨x16, μ17⟩, h1, h⟩ := bdS h
                replace hF := hF.trans ((Laws_pop_fr h1).mono (by decide))
                cases h; exact hF
              · obtain ⟨μ14, hj, h⟩ := bdS h
                replace hF : Fr [502, 503] μ μ14 := by
                  clear h
                  replace h := hj
                  clear hj
                  rcases iteS h with h | h
                  · obtain ⟨⟨x11, μ12⟩, h1, h⟩ := bdS h
                    replace hF := hF.trans ((Laws_pop_fr h1).mono (by decide))
                    obtain ⟨μ13, h1, h⟩ := bdS h
                    replace hF := hF.trans ((Laws_push_fr h1).mono (by decide))
                    cases h; exact hF
                  · obtain ⟨⟨x4, μ5⟩, h1, h⟩ := bdS h
                    replace hF := hF.trans ((Laws_pop_fr h1).mono (by decide))
                    obtain ⟨⟨x6, μ7⟩, h1, h⟩ := bdS h
                    replace hF := hF.trans ((Laws_pop_fr h1).mono (by decide))
                    obtain ⟨_, _, h⟩ := bdS h
                    obtain ⟨_, _, h⟩ := bdS h
                    obtain ⟨μ10, h1, h⟩ := bdS h
                    replace hF := hF.trans ((Laws_push_fr h1).mono (by decide))
                    cases h; exact hF
                obtain ⟨_, _, h⟩ := bdS h
                exact hF.trans (ih h)
      · cases h; exact hF
    · cases h; exact hF
set_option maxRecDepth 100000 in
theorem Laws_valueOf_fr {a1 : Int32} {μ : Mem} {r : Int32} {μ' : Mem} (h : Laws_valueOf a1 μ = some (r, μ')) : Fr [502, 503] μ μ' := by
  unfold Laws_valueOf at h
  have hF : Fr [502, 503] μ μ := Fr.refl
  obtain ⟨_, _, h⟩ := bdS h
  obtain ⟨μ2, h1, h⟩ := bdS h
  replace hF := fr_mSI (by decide) hF h1
  exact hF.trans ((Laws_valueOf_l1_fr h).mono (by decide))
set_option maxRecDepth 100000 in
theorem Pot_keepsHolds_l1_fr {v1 : Int32} {r : Int32} {μ' : Mem} : ∀ {n : Nat} {v2 : Int32} {μ : Mem}, Pot_keepsHolds_l1 v1 n v2 μ = some (r, μ') → Fr [502, 503] μ μ' := by
  intro n
  induction n with
  | zero => intro v2 μ h; exact noS h
  | succ n ih =>
    intro v2 μ h
    replace h : Pot_keepsHolds_l1b v1 (Pot_keepsHolds_l1 v1 n) v2 μ = some (r, μ') := h
    unfold Pot_keepsHolds_l1b at h
    have hF : Fr [502, 503] μ μ := Fr.refl
    rcases iteS h with h | h
    · obtain ⟨_, _, h⟩ := bdS h
      obtain ⟨_, _, h⟩ := bdS h
      rcases iteS h with h | h
      · obtain ⟨_, _, h⟩ := bdS h
        exact hF.trans (ih h)
      · obtain ⟨⟨x4, μ5⟩, h1, h⟩ := bdS h
        replace hF := hF.trans ((Laws_valueOf_fr h1).mono (by decide))
        obtain ⟨_, _, h⟩ := bdS h
        obtain ⟨_, _, h⟩ := bdS h
        rcases iteS h with h | h
        · obtain ⟨_, _, h⟩ := bdS h
          cases h; exact hF
        · obtain ⟨_, _, h⟩ := bdS h
          obtain ⟨_, _, h⟩ := bdS h
          rcases iteS h with h | h
          · obtain ⟨_, _, h⟩ := bdS h
            cases h; exact hF
          · obtain ⟨_, _, h⟩ := bdS h
            exact hF.trans (ih h)
    · obtain ⟨_, _, h⟩ := bdS h
      cases h; exact hF
set_option maxRecDepth 100000 in
theorem Pot_keepsHolds_fr {a1 : Int32} {μ : Mem} {r : Int32} {μ' : Mem} (h : Pot_keepsHolds a1 μ = some (r, μ')) : Fr [502, 503] μ μ' := by
  unfold Pot_keepsHolds at h
  have hF : Fr [502, 503] μ μ := Fr.refl
  exact hF.trans ((Pot_keepsHolds_l1_fr h).mono (by decide))
set_option maxRecDepth 100000 in
theorem Pot_keep_fr {a1 : Int32} {a2 : Int32} {μ : Mem} {μ' : Mem} (h : Pot_keep a1 a2 μ = some μ') : Fr [910, 911, 913] μ μ' := by
  unfold Pot_keep at h
  have hF : Fr [910, 911, 913] μ μ := Fr.refl
  obtain ⟨_, _, h⟩ := bdS h
  obtain ⟨μ4, hj, h⟩ := bdS h
  replace hF : Fr [910, 911, 913] μ μ4 := by
    clear h
    replace h := hj
    clear hj
    rcases iteS h with h | h
    · obtain ⟨_, _, h⟩ := bdS h
      obtain ⟨μ3, h1, h⟩ := bdS h
      replace hF := fr_mCP (by decide) hF h1
      cases h; exact hF
    · cases h; exact hF
  obtain ⟨μ5, h1, h⟩ := bdS h
  replace hF := fr_mWr (by decide) hF h1
  obtain ⟨μ6, h1, h⟩ := bdS h
  replace hF := fr_mWr (by decide) hF h1
  cases h; exact hF
set_option maxRecDepth 100000 in
theorem Pot_lay_l1_fr {v1 : Int32} {v2 : Int32} {μo : Mem} : ∀ {n : Nat} {v3 : Int32} {μ : Mem}, Pot_lay_l1 v1 v2 n v3 μ = some μo → Fr [502, 503, 909, 910, 911, 912, 913, 914, 915, 916, 917, 918] μ μo := by
  intro n
  induction n with
  | zero => intro v3 μ h; exact noS h
  | succ n ih =>
    intro v3 μ h
    replace h : Pot_lay_l1b v1 v2 (Pot_lay_l1 v1 v2 n) v3 μ = some μo := h
    unfold Pot_lay_l1b at h
    have hF : Fr [502, 503, 909, 910, 911, 912, 913, 914, 915, 916, 917, 918] μ μ := Fr.refl
    rcases iteS h with h | h
    · rcases iteS h with h | h
      · cases h; exact hF
      · obtain ⟨μ1, h1, h⟩ := bdS h
        replace hF := hF.trans ((Pot_spread_fr h1).mono (by decide))
        obtain ⟨⟨x2, μ3⟩, h1, h⟩ := bdS h
        replace hF := hF.trans ((Pot_keepsHolds_fr h1).mono (by decide))
        obtain ⟨μ5, hj, h⟩ := bdS h
        replace hF : Fr [502, 503, 909, 910, 911, 912, 913, 914, 915, 916, 917, 918] μ μ5 := by
          clear h
          replace h := hj
          clear hj
          rcases iteS h with h | h
          · cases h; exact hF
          · obtain ⟨μ4, h1, h⟩ := bdS h
            replace hF := hF.trans ((Pot_keep_fr h1).mono (by decide))
            cases h; exact hF
        obtain ⟨_, _, h⟩ := bdS h
        exact hF.trans (ih h)
    · cases h; exact hF
set_option maxRecDepth 100000 in
theorem Pot_lay_fr {a1 : Int32} {μ : Mem} {r : Int32} {μ' : Mem} (h : Pot_lay a1 μ = some (r, μ')) : Fr [502, 503, 909, 910, 911, 912, 913, 914, 915, 916, 917, 918] μ μ' := by
  unfold Pot_lay at h
  have hF : Fr [502, 503, 909, 910, 911, 912, 913, 914, 915, 916, 917, 918] μ μ := Fr.refl
  obtain ⟨k3, hkk3, h⟩ := kE h
  have Jk3 : Fr [502, 503, 909, 910, 911, 912, 913, 914, 915, 916, 917, 918] μ μ → k3 () = some (r, μ') → Fr [502, 503, 909, 910, 911, 912, 913, 914, 915, 916, 917, 918] μ μ' := by
    clear h hF
    intro hF h
    rw [hkk3] at h
    obtain ⟨μ4, h1, h⟩ := bdS h
    replace hF := fr_mSI (by decide) hF h1
    obtain ⟨μ5, h1, h⟩ := bdS h
    replace hF := fr_mWr (by decide) hF h1
    obtain ⟨⟨x6, μ7⟩, h1, h⟩ := bdS h
    replace hF := hF.trans ((Pot_frame_fr h1).mono (by decide))
    obtain ⟨x8, _, h⟩ := bdS h
    obtain ⟨μ9, h1, h⟩ := bdS h
    replace hF := fr_mWr (by decide) hF h1
    obtain ⟨μ10, h1, h⟩ := bdS h
    replace hF := hF.trans ((Pot_lay_l1_fr h1).mono (by decide))
    obtain ⟨_, _, h⟩ := bdS h
    cases h; exact hF
  rcases iteS h with h | h
  · obtain ⟨_, _, h⟩ := bdS h
    rcases iteS h with h | h
    · obtain ⟨_, _, h⟩ := bdS h
      cases h; exact hF
    · exact Jk3 hF h
  · exact Jk3 hF h
set_option maxRecDepth 100000 in
theorem B_laid_fr {a1 : Int32} {μ : Mem} {r : Int32} {μ' : Mem} (h : B_laid a1 μ = some (r, μ')) : Fr [502, 503, 909, 910, 911, 912, 913, 914, 915, 916, 917, 918] μ μ' := by
  unfold B_laid at h
  have hF : Fr [502, 503, 909, 910, 911, 912, 913, 914, 915, 916, 917, 918] μ μ := Fr.refl
  obtain ⟨_, _, h⟩ := bdS h
  rcases iteS h with h | h
  · cases h; exact hF
  · obtain ⟨⟨x2, μ3⟩, h1, h⟩ := bdS h
    replace hF := hF.trans ((Pot_lay_fr h1).mono (by decide))
    cases h; exact hF
set_option maxRecDepth 100000 in
theorem B_dishes_fr {a1 : Int32} {μ : Mem} {r : Int32} {μ' : Mem} (h : B_dishes a1 μ = some (r, μ')) : Fr [502, 503, 909, 910, 911, 912, 913, 914, 915, 916, 917, 918] μ μ' := by
  unfold B_dishes at h
  have hF : Fr [502, 503, 909, 910, 911, 912, 913, 914, 915, 916, 917, 918] μ μ := Fr.refl
  obtain ⟨⟨x1, μ2⟩, h1, h⟩ := bdS h
  replace hF := hF.trans ((B_laid_fr h1).mono (by decide))
  cases h; exact hF
set_option maxRecDepth 100000 in
theorem Pot_show_fr {a1 : Int32} {μ : Mem} {μ' : Mem} (h : Pot_show a1 μ = some μ') : Fr [917, 918] μ μ' := by
  unfold Pot_show at h
  have hF : Fr [917, 918] μ μ := Fr.refl
  rcases iteS h with h | h
  · cases h; exact hF
  · rcases iteS h with h | h
    · obtain ⟨_, _, h⟩ := bdS h
      obtain ⟨μ2, h1, h⟩ := bdS h
      replace hF := hF.trans ((Pot_spread_fr h1).mono (by decide))
      cases h; exact hF
    · cases h; exact hF
set_option maxRecDepth 100000 in
theorem B_shows_fr {a1 : Int32} {a2 : Int32} {μ : Mem} {r : Int32} {μ' : Mem} (h : B_shows a1 a2 μ = some (r, μ')) : Fr [502, 503, 909, 910, 911, 912, 913, 914, 915, 916, 917, 918] μ μ' := by
  unfold B_shows at h
  have hF : Fr [502, 503, 909, 910, 911, 912, 913, 914, 915, 916, 917, 918] μ μ := Fr.refl
  rcases iteS h with h | h
  · obtain ⟨_, _, h⟩ := bdS h
    cases h; exact hF
  · obtain ⟨⟨x1, μ2⟩, h1, h⟩ := bdS h
    replace hF := hF.trans ((B_laid_fr h1).mono (by decide))
    rcases iteS h with h | h
    · obtain ⟨μ3, h1, h⟩ := bdS h
      replace hF := hF.trans ((Pot_show_fr h1).mono (by decide))
      obtain ⟨_, _, h⟩ := bdS h
      cases h; exact hF
    · obtain ⟨_, _, h⟩ := bdS h
      cases h; exact hF
set_option maxRecDepth 100000 in
theorem B_dish_fr {a1 : Int32} {a2 : Int32} {a3 : Int32} {μ : Mem} {r : Int32} {μ' : Mem} (h : B_dish a1 a2 a3 μ = some (r, μ')) : Fr [502, 503, 909, 910, 911, 912, 913, 914, 915, 916, 917, 918] μ μ' := by
  unfold B_dish at h
  have hF : Fr [502, 503, 909, 910, 911, 912, 913, 914, 915, 916, 917, 918] μ μ := Fr.refl
  obtain ⟨_, _, h⟩ := bdS h
  rcases iteS h with h | h
  · cases h; exact hF
  · obtain ⟨⟨x2, μ3⟩, h1, h⟩ := bdS h
    replace hF := hF.trans ((B_shows_fr h1).mono (by decide))
    rcases iteS h with h | h
    · cases h; exact hF
    · obtain ⟨_, _, h⟩ := bdS h
      cases h; exact hF
set_option maxRecDepth 100000 in
theorem B_span_fr {a1 : Int32} {a2 : Int32} {a3 : Int32} {μ : Mem} {r : Int32} {μ' : Mem} (h : B_span a1 a2 a3 μ = some (r, μ')) : Fr [502, 503, 909, 910, 911, 912, 913, 914, 915, 916, 917, 918] μ μ' := by
  unfold B_span at h
  have hF : Fr [502, 503, 909, 910, 911, 912, 913, 914, 915, 916, 917, 918] μ μ := Fr.refl
  obtain ⟨_, _, h⟩ := bdS h
  rcases iteS h with h | h
  · cases h; exact hF
  · obtain ⟨_, _, h⟩ := bdS h
    rcases iteS h with h | h
    · cases h; exact hF
    · obtain ⟨_, _, h⟩ := bdS h
      rcases iteS h with h | h
      · cases h; exact hF
      · obtain ⟨⟨x4, μ5⟩, h1, h⟩ := bdS h
        replace hF := hF.trans ((B_laid_fr h1).mono (by decide))
        rcases iteS h with h | h
        · obtain ⟨_, _, h⟩ := bdS h
          obtain ⟨_, _, h⟩ := bdS h
          cases h; exact hF
        · cases h; exact hF
set_option maxRecDepth 100000 in
theorem B_shared_fr {a1 : Int32} {μ : Mem} {r : Int32} {μ' : Mem} (h : B_shared a1 μ = some (r, μ')) : Fr [502, 503, 909, 910, 911, 912, 913, 914, 915, 916, 917, 918] μ μ' := by
  unfold B_shared at h
  have hF : Fr [502, 503, 909, 910, 911, 912, 913, 914, 915, 916, 917, 918] μ μ := Fr.refl
  obtain ⟨⟨x1, μ2⟩, h1, h⟩ := bdS h
  replace hF := hF.trans ((B_laid_fr h1).mono (by decide))
  rcases iteS h with h | h
  · obtain ⟨_, _, h⟩ := bdS h
    cases h; exact hF
  · cases h; exact hF
set_option maxRecDepth 100000 in
theorem B_worth_fr {a1 : Int32} {a2 : Int32} {a3 : Int32} {μ : Mem} {r : Int32} {μ' : Mem} (h : B_worth a1 a2 a3 μ = some (r, μ')) : Fr [502, 503, 909, 910, 911, 912, 913, 914, 915, 916, 917, 918] μ μ' := by
  unfold B_worth at h
  have hF : Fr [502, 503, 909, 910, 911, 912, 913, 914, 915, 916, 917, 918] μ μ := Fr.refl
  obtain ⟨_, _, h⟩ := bdS h
  rcases iteS h with h | h
  · cases h; exact hF
  · obtain ⟨⟨x2, μ3⟩, h1, h⟩ := bdS h
    replace hF := hF.trans ((B_shows_fr h1).mono (by decide))
    rcases iteS h with h | h
    · cases h; exact hF
    · obtain ⟨⟨x4, μ5⟩, h1, h⟩ := bdS h
      replace hF := hF.trans ((Laws_valueOf_fr h1).mono (by decide))
      cases h; exact hF
set_option maxRecDepth 100000 in
theorem Taster_worthEdge_l1_fr {v1 : Int32} {v2 : Int32} {o1 : Int32} {μo : Mem} : ∀ {n : Nat} {v3 : Int32} {v4 : Int32} {μ : Mem}, Taster_worthEdge_l1 v1 v2 n v3 v4 μ = some (o1, μo) → Fr [502, 503, 917, 918] μ μo := by
  intro n
  induction n with
  | zero => intro v3 v4 μ h; exact noS h
  | succ n ih =>
    intro v3 v4 μ h
    replace h : Taster_worthEdge_l1b v1 v2 (Taster_worthEdge_l1 v1 v2 n) v3 v4 μ = some (o1, μo) := h
    unfold Taster_worthEdge_l1b at h
    have hF : Fr [502, 503, 917, 918] μ μ := Fr.refl
    obtain ⟨_, _, h⟩ := bdS h
    rcases iteS h with h | h
    · obtain ⟨μ2, h1, h⟩ := bdS h
      replace hF := hF.trans ((Pot_show_fr h1).mono (by decide))
      obtain ⟨⟨x3, μ4⟩, h1, h⟩ := bdS h
      replace hF := hF.trans ((Laws_valueOf_fr h1).mono (by decide))
      obtain ⟨_, _, h⟩ := bdS h
      obtain ⟨_, _, h⟩ := bdS h
      exact hF.trans (ih h)
    · cases h; exact hF
set_option maxRecDepth 100000 in
theorem Taster_worthEdge_fr {a1 : Int32} {a2 : Int32} {μ : Mem} {r : Int32} {μ' : Mem} (h : Taster_worthEdge a1 a2 μ = some (r, μ')) : Fr [502, 503, 917, 918] μ μ' := by
  unfold Taster_worthEdge at h
  have hF : Fr [502, 503, 917, 918] μ μ := Fr.refl
  obtain ⟨μ1, h1, h⟩ := bdS h
  replace hF := hF.trans ((Pot_show_fr h1).mono (by decide))
  obtain ⟨⟨x2, μ3⟩, h1, h⟩ := bdS h
  replace hF := hF.trans ((Laws_valueOf_fr h1).mono (by decide))
  obtain ⟨⟨x4, μ5⟩, h1, h⟩ := bdS h
  replace hF := hF.trans ((Taster_worthEdge_l1_fr h1).mono (by decide))
  cases h; exact hF
set_option maxRecDepth 100000 in
theorem B_range_fr {a1 : Int32} {a2 : Int32} {a3 : Int32} {μ : Mem} {r : Int32} {μ' : Mem} (h : B_range a1 a2 a3 μ = some (r, μ')) : Fr [502, 503, 909, 910, 911, 912, 913, 914, 915, 916, 917, 918] μ μ' := by
  unfold B_range at h
  have hF : Fr [502, 503, 909, 910, 911, 912, 913, 914, 915, 916, 917, 918] μ μ := Fr.refl
  obtain ⟨_, _, h⟩ := bdS h
  rcases iteS h with h | h
  · cases h; exact hF
  · obtain ⟨_, _, h⟩ := bdS h
    rcases iteS h with h | h
    · cases h; exact hF
    · obtain ⟨⟨x3, μ4⟩, h1, h⟩ := bdS h
      replace hF := hF.trans ((B_laid_fr h1).mono (by decide))
      rcases iteS h with h | h
      · obtain ⟨⟨x5, μ6⟩, h1, h⟩ := bdS h
        replace hF := hF.trans ((Taster_worthEdge_fr h1).mono (by decide))
        cases h; exact hF
      · cases h; exact hF
set_option maxRecDepth 100000 in
theorem Taster_mostAlike_l1_fr {v1 : Int32} {μo : Mem} : ∀ {n : Nat} {v2 : Int32} {μ : Mem}, Taster_mostAlike_l1 v1 n v2 μ = some μo → Fr [1104] μ μo := by
  intro n
  induction n with
  | zero => intro v2 μ h; exact noS h
  | succ n ih =>
    intro v2 μ h
    replace h : Taster_mostAlike_l1b v1 (Taster_mostAlike_l1 v1 n) v2 μ = some μo := h
    unfold Taster_mostAlike_l1b at h
    have hF : Fr [1104] μ μ := Fr.refl
    rcases iteS h with h | h
    · cases h; exact hF
    · obtain ⟨μ1, h1, h⟩ := bdS h
      replace hF := fr_mWr (by decide) hF h1
      obtain ⟨_, _, h⟩ := bdS h
      exact hF.trans (ih h)
set_option maxRecDepth 100000 in
theorem Taster_mostAlike_l2_fr {v1 : Int32} {o1 : Int32} {μo : Mem} : ∀ {n : Nat} {v2 : Int32} {v3 : Int32} {μ : Mem}, Taster_mostAlike_l2 v1 n v2 v3 μ = some (o1, μo) → Fr [1104] μ μo := by
  intro n
  induction n with
  | zero => intro v2 v3 μ h; exact noS h
  | succ n ih =>
    intro v2 v3 μ h
    replace h : Taster_mostAlike_l2b v1 (Taster_mostAlike_l2 v1 n) v2 v3 μ = some (o1, μo) := h
    unfold Taster_mostAlike_l2b at h
    have hF : Fr [1104] μ μ := Fr.refl
    obtain ⟨_, _, h⟩ := bdS h
    rcases iteS h with h | h
    · obtain ⟨_, _, h⟩ := bdS h
      obtain ⟨_, _, h⟩ := bdS h
      obtain ⟨⟨x8, μ9⟩, hj, h⟩ := bdS h
      replace hF : Fr [1104] μ μ9 := by
        clear h
        replace h := hj
        clear hj
        rcases iteS h with h | h
        · cases h; exact hF
        · obtain ⟨_, _, h⟩ := bdS h
          obtain ⟨μ5, h1, h⟩ := bdS h
          replace hF := fr_mWr (by decide) hF h1
          obtain ⟨_, _, h⟩ := bdS h
          obtain ⟨_, _, h⟩ := bdS h
          cases h; exact hF
      obtain ⟨_, _, h⟩ := bdS h
      exact hF.trans (ih h)
    · cases h; exact hF
set_option maxRecDepth 100000 in
theorem Taster_mostAlike_fr {a1 : Int32} {μ : Mem} {r : Int32} {μ' : Mem} (h : Taster_mostAlike a1 μ = some (r, μ')) : Fr [1104] μ μ' := by
  unfold Taster_mostAlike at h
  have hF : Fr [1104] μ μ := Fr.refl
  obtain ⟨μ1, h1, h⟩ := bdS h
  replace hF := hF.trans ((Taster_mostAlike_l1_fr h1).mono (by decide))
  obtain ⟨⟨x2, μ3⟩, h1, h⟩ := bdS h
  replace hF := hF.trans ((Taster_mostAlike_l2_fr h1).mono (by decide))
  cases h; exact hF
set_option maxRecDepth 100000 in
theorem Taster_mostTelling_l1_fr {v1 : Int32} {o1 : Int32} {μo : Mem} : ∀ {n : Nat} {v2 : Int32} {v3 : Int32} {v4 : Int32} {μ : Mem}, Taster_mostTelling_l1 v1 n v2 v3 v4 μ = some (o1, μo) → Fr [1104] μ μo := by
  intro n
  induction n with
  | zero => intro v2 v3 v4 μ h; exact noS h
  | succ n ih =>
    intro v2 v3 v4 μ h
    replace h : Taster_mostTelling_l1b v1 (Taster_mostTelling_l1 v1 n) v2 v3 v4 μ = some (o1, μo) := h
    unfold Taster_mostTelling_l1b at h
    have hF : Fr [1104] μ μ := Fr.refl
    obtain ⟨_, _, h⟩ := bdS h
    rcases iteS h with h | h
    · obtain ⟨⟨x2, μ3⟩, h1, h⟩ := bdS h
      replace hF := hF.trans ((Taster_mostAlike_fr h1).mono (by decide))
      obtain ⟨⟨x6, x7⟩, _, h⟩ := bdS h
      obtain ⟨_, _, h⟩ := bdS h
      exact hF.trans (ih h)
    · cases h; exact hF
set_option maxRecDepth 100000 in
theorem Taster_mostTelling_fr {a1 : Int32} {μ : Mem} {r : Int32} {μ' : Mem} (h : Taster_mostTelling a1 μ = some (r, μ')) : Fr [1104] μ μ' := by
  unfold Taster_mostTelling at h
  have hF : Fr [1104] μ μ := Fr.refl
  obtain ⟨⟨x1, μ2⟩, h1, h⟩ := bdS h
  replace hF := hF.trans ((Taster_mostTelling_l1_fr h1).mono (by decide))
  cases h; exact hF
set_option maxRecDepth 100000 in
theorem B_weigh_fr {a1 : Int32} {μ : Mem} {r : Int32} {μ' : Mem} (h : B_weigh a1 μ = some (r, μ')) : Fr [502, 503, 909, 910, 911, 912, 913, 914, 915, 916, 917, 918, 1104] μ μ' := by
  unfold B_weigh at h
  have hF : Fr [502, 503, 909, 910, 911, 912, 913, 914, 915, 916, 917, 918, 1104] μ μ := Fr.refl
  obtain ⟨⟨x1, μ2⟩, h1, h⟩ := bdS h
  replace hF := hF.trans ((B_laid_fr h1).mono (by decide))
  rcases iteS h with h | h
  · obtain ⟨⟨x3, μ4⟩, h1, h⟩ := bdS h
    replace hF := hF.trans ((Taster_mostTelling_fr h1).mono (by decide))
    cases h; exact hF
  · cases h; exact hF
set_option maxRecDepth 100000 in
theorem Laws_tellTrial_fr {a1 : Int32} {a2 : Int32} {a3 : Int32} {μ : Mem} {μ' : Mem} (h : Laws_tellTrial a1 a2 a3 μ = some μ') : Fr [505, 506, 507] μ μ' := by
  unfold Laws_tellTrial at h
  have hF : Fr [505, 506, 507] μ μ := Fr.refl
  obtain ⟨μ5, hj, h⟩ := bdS h
  replace hF : Fr [505, 506, 507] μ μ5 := by
    clear h
    replace h := hj
    clear hj
    rcases iteS h with h | h
    · obtain ⟨_, _, h⟩ := bdS h
      obtain ⟨μ2, h1, h⟩ := bdS h
      replace hF := fr_mWr (by decide) hF h1
      cases h; exact hF
    · obtain ⟨_, _, h⟩ := bdS h
      obtain ⟨μ4, h1, h⟩ := bdS h
      replace hF := fr_mWr (by decide) hF h1
      cases h; exact hF
  obtain ⟨μ6, h1, h⟩ := bdS h
  replace hF := fr_mSI (by decide) hF h1
  cases h; exact hF
set_option maxRecDepth 100000 in
theorem B_trial_fr {a1 : Int32} {a2 : Int32} {a3 : Int32} {μ : Mem} {r : Int32} {μ' : Mem} (h : B_trial a1 a2 a3 μ = some (r, μ')) : Fr [505, 506, 507] μ μ' := by
  unfold B_trial at h
  have hF : Fr [505, 506, 507] μ μ := Fr.refl
  obtain ⟨_, _, h⟩ := bdS h
  rcases iteS h with h | h
  · cases h; exact hF
  · obtain ⟨_, _, h⟩ := bdS h
    rcases iteS h with h | h
    · cases h; exact hF
    · rcases iteS h with h | h
      · obtain ⟨μ3, h1, h⟩ := bdS h
        replace hF := hF.trans ((Laws_tellTrial_fr h1).mono (by decide))
        cases h; exact hF
      · cases h; exact hF
set_option maxRecDepth 100000 in
theorem B_stands_fr {a1 : Int32} {a2 : Int32} {a3 : Int32} {μ : Mem} {r : Int32} {μ' : Mem} (h : B_stands a1 a2 a3 μ = some (r, μ')) : Fr [502, 503, 909, 910, 911, 912, 913, 914, 915, 916, 917, 918] μ μ' := by
  unfold B_stands at h
  have hF : Fr [502, 503, 909, 910, 911, 912, 913, 914, 915, 916, 917, 918] μ μ := Fr.refl
  obtain ⟨_, _, h⟩ := bdS h
  rcases iteS h with h | h
  · cases h; exact hF
  · obtain ⟨⟨x2, μ3⟩, h1, h⟩ := bdS h
    replace hF := hF.trans ((B_shows_fr h1).mono (by decide))
    rcases iteS h with h | h
    · cases h; exact hF
    · obtain ⟨⟨x4, μ5⟩, h1, h⟩ := bdS h
      replace hF := hF.trans ((Laws_valueOf_fr h1).mono (by decide))
      obtain ⟨_, _, h⟩ := bdS h
      cases h; exact hF
set_option maxRecDepth 100000 in
theorem Taster_judged_l1_fr {v1 : Int32} {v2 : Int32} {o1 : Int32} {μo : Mem} : ∀ {n : Nat} {v3 : Int32} {v4 : Int32} {μ : Mem}, Taster_judged_l1 v1 v2 n v3 v4 μ = some (o1, μo) → Fr [502, 503, 917, 918] μ μo := by
  intro n
  induction n with
  | zero => intro v3 v4 μ h; exact noS h
  | succ n ih =>
    intro v3 v4 μ h
    replace h : Taster_judged_l1b v1 v2 (Taster_judged_l1 v1 v2 n) v3 v4 μ = some (o1, μo) := h
    unfold Taster_judged_l1b at h
    have hF : Fr [502, 503, 917, 918] μ μ := Fr.refl
    obtain ⟨_, _, h⟩ := bdS h
    rcases iteS h with h | h
    · obtain ⟨μ2, h1, h⟩ := bdS h
      replace hF := hF.trans ((Pot_show_fr h1).mono (by decide))
      obtain ⟨⟨x3, μ4⟩, h1, h⟩ := bdS h
      replace hF := hF.trans ((Laws_valueOf_fr h1).mono (by decide))
      obtain ⟨_, _, h⟩ := bdS h
      obtain ⟨x7, _, h⟩ := bdS h
      obtain ⟨_, _, h⟩ := bdS h
      exact hF.trans (ih h)
    · cases h; exact hF
set_option maxRecDepth 100000 in
theorem Taster_judged_fr {a1 : Int32} {a2 : Int32} {μ : Mem} {r : Int32} {μ' : Mem} (h : Taster_judged a1 a2 μ = some (r, μ')) : Fr [502, 503, 917, 918] μ μ' := by
  unfold Taster_judged at h
  have hF : Fr [502, 503, 917, 918] μ μ := Fr.refl
  obtain ⟨⟨x1, μ2⟩, h1, h⟩ := bdS h
  replace hF := hF.trans ((Taster_judged_l1_fr h1).mono (by decide))
  cases h; exact hF
set_option maxRecDepth 100000 in
theorem B_stand_fr {a1 : Int32} {a2 : Int32} {a3 : Int32} {μ : Mem} {r : Int32} {μ' : Mem} (h : B_stand a1 a2 a3 μ = some (r, μ')) : Fr [502, 503, 909, 910, 911, 912, 913, 914, 915, 916, 917, 918] μ μ' := by
  unfold B_stand at h
  have hF : Fr [502, 503, 909, 910, 911, 912, 913, 914, 915, 916, 917, 918] μ μ := Fr.refl
  obtain ⟨_, _, h⟩ := bdS h
  rcases iteS h with h | h
  · cases h; exact hF
  · obtain ⟨_, _, h⟩ := bdS h
    rcases iteS h with h | h
    · cases h; exact hF
    · obtain ⟨⟨x3, μ4⟩, h1, h⟩ := bdS h
      replace hF := hF.trans ((B_laid_fr h1).mono (by decide))
      rcases iteS h with h | h
      · cases h; exact hF
      · obtain ⟨⟨x5, μ6⟩, h1, h⟩ := bdS h
        replace hF := hF.trans ((Taster_judged_fr h1).mono (by decide))
        cases h; exact hF
set_option maxRecDepth 100000 in
theorem Copies_put_fr {a1 : Int32} {μ : Mem} {r : Int32} {μ' : Mem} (h : Copies_put a1 μ = some (r, μ')) : Fr [200, 201, 206] μ μ' := by
  unfold Copies_put at h
  have hF : Fr [200, 201, 206] μ μ := Fr.refl
  obtain ⟨μ1, h1, h⟩ := bdS h
  replace hF := fr_mWr (by decide) hF h1
  obtain ⟨μ2, h1, h⟩ := bdS h
  replace hF := fr_mWr (by decide) hF h1
  obtain ⟨μ3, h1, h⟩ := bdS h
  replace hF := fr_mSI (by decide) hF h1
  cases h; exact hF
set_option maxRecDepth 100000 in
theorem B_book_fr {a1 : Int32} {μ : Mem} {r : Int32} {μ' : Mem} (h : B_book a1 μ = some (r, μ')) : Fr [200, 201, 206] μ μ' := by
  unfold B_book at h
  have hF : Fr [200, 201, 206] μ μ := Fr.refl
  obtain ⟨k2, hkk2, h⟩ := kE h
  have Jk2 : Fr [200, 201, 206] μ μ → k2 () = some (r, μ') → Fr [200, 201, 206] μ μ' := by
    clear h hF
    intro hF h
    rw [hkk2] at h
    rcases iteS h with h | h
    · obtain ⟨⟨x3, μ4⟩, h1, h⟩ := bdS h
      replace hF := hF.trans ((Copies_put_fr h1).mono (by decide))
      cases h; exact hF
    · cases h; exact hF
  rcases iteS h with h | h
  · exact Jk2 hF h
  · obtain ⟨_, _, h⟩ := bdS h
    rcases iteS h with h | h
    · cases h; exact hF
    · exact Jk2 hF h
set_option maxRecDepth 100000 in
theorem B_slip_fr {a1 : Int32} {a2 : Int32} {a3 : Int32} {μ : Mem} {r : Int32} {μ' : Mem} (h : B_slip a1 a2 a3 μ = some (r, μ')) : Fr [202] μ μ' := by
  unfold B_slip at h
  have hF : Fr [202] μ μ := Fr.refl
  obtain ⟨_, _, h⟩ := bdS h
  rcases iteS h with h | h
  · obtain ⟨_, _, h⟩ := bdS h
    cases h; exact hF
  · obtain ⟨_, _, h⟩ := bdS h
    rcases iteS h with h | h
    · obtain ⟨_, _, h⟩ := bdS h
      cases h; exact hF
    · rcases iteS h with h | h
      · obtain ⟨_, _, h⟩ := bdS h
        cases h; exact hF
      · obtain ⟨_, _, h⟩ := bdS h
        rcases iteS h with h | h
        · obtain ⟨_, _, h⟩ := bdS h
          cases h; exact hF
        · obtain ⟨_, _, h⟩ := bdS h
          obtain ⟨μ5, h1, h⟩ := bdS h
          replace hF := fr_mWr (by decide) hF h1
          obtain ⟨_, _, h⟩ := bdS h
          cases h; exact hF
set_option maxRecDepth 100000 in
theorem B_reads_fr {a1 : Int32} {a2 : Int32} {μ : Mem} {r : Int32} {μ' : Mem} (h : B_reads a1 a2 μ = some (r, μ')) : Fr [201] μ μ' := by
  unfold B_reads at h
  have hF : Fr [201] μ μ := Fr.refl
  obtain ⟨_, _, h⟩ := bdS h
  rcases iteS h with h | h
  · obtain ⟨_, _, h⟩ := bdS h
    cases h; exact hF
  · obtain ⟨k3, hkk3, h⟩ := kE h
    have Jk3 : Fr [201] μ μ → k3 () = some (r, μ') → Fr [201] μ μ' := by
      clear h hF
      intro hF h
      rw [hkk3] at h
      obtain ⟨μ4, h1, h⟩ := bdS h
      replace hF := fr_mWr (by decide) hF h1
      obtain ⟨_, _, h⟩ := bdS h
      cases h; exact hF
    rcases iteS h with h | h
    · exact Jk3 hF h
    · obtain ⟨_, _, h⟩ := bdS h
      rcases iteS h with h | h
      · obtain ⟨_, _, h⟩ := bdS h
        cases h; exact hF
      · exact Jk3 hF h
set_option maxRecDepth 100000 in
theorem Copies_addCopy_fr {a1 : Int32} {a2 : Int32} {μ : Mem} {μ' : Mem} (h : Copies_addCopy a1 a2 μ = some μ') : Fr [203, 204] μ μ' := by
  unfold Copies_addCopy at h
  have hF : Fr [203, 204] μ μ := Fr.refl
  obtain ⟨_, _, h⟩ := bdS h
  obtain ⟨_, _, h⟩ := bdS h
  obtain ⟨_, _, h⟩ := bdS h
  obtain ⟨_, _, h⟩ := bdS h
  obtain ⟨_, _, h⟩ := bdS h
  obtain ⟨μ6, h1, h⟩ := bdS h
  replace hF := fr_mWr (by decide) hF h1
  obtain ⟨_, _, h⟩ := bdS h
  obtain ⟨_, _, h⟩ := bdS h
  obtain ⟨_, _, h⟩ := bdS h
  obtain ⟨μ10, h1, h⟩ := bdS h
  replace hF := fr_mWl (by decide) hF h1
  cases h; exact hF
set_option maxRecDepth 100000 in
theorem Copies_reckon_l2_fr {v1 : Int32} {μo : Mem} : ∀ {n : Nat} {v2 : Int32} {μ : Mem}, Copies_reckon_l2 v1 n v2 μ = some μo → Fr [203, 204] μ μo := by
  intro n
  induction n with
  | zero => intro v2 μ h; exact noS h
  | succ n ih =>
    intro v2 μ h
    replace h : Copies_reckon_l2b v1 (Copies_reckon_l2 v1 n) v2 μ = some μo := h
    unfold Copies_reckon_l2b at h
    have hF : Fr [203, 204] μ μ := Fr.refl
    rcases iteS h with h | h
    · obtain ⟨_, _, h⟩ := bdS h
      obtain ⟨μ2, h1, h⟩ := bdS h
      replace hF := fr_mWr (by decide) hF h1
      obtain ⟨_, _, h⟩ := bdS h
      obtain ⟨μ4, h1, h⟩ := bdS h
      replace hF := fr_mWl (by decide) hF h1
      obtain ⟨_, _, h⟩ := bdS h
      exact hF.trans (ih h)
    · cases h; exact hF
set_option maxRecDepth 100000 in
theorem Copies_reckon_l1_fr {μo : Mem} : ∀ {n : Nat} {v1 : Int32} {μ : Mem}, Copies_reckon_l1 n v1 μ = some μo → Fr [203, 204] μ μo := by
  intro n
  induction n with
  | zero => intro v1 μ h; exact noS h
  | succ n ih =>
    intro v1 μ h
    replace h : Copies_reckon_l1b (Copies_reckon_l1 n) v1 μ = some μo := h
    unfold Copies_reckon_l1b at h
    have hF : Fr [203, 204] μ μ := Fr.refl
    rcases iteS h with h | h
    · cases h; exact hF
    · obtain ⟨μ1, h1, h⟩ := bdS h
      replace hF := hF.trans ((Copies_reckon_l2_fr h1).mono (by decide))
      obtain ⟨_, _, h⟩ := bdS h
      exact hF.trans (ih h)
set_option maxRecDepth 100000 in
theorem Copies_reckon_l4_fr {v1 : Int32} {μo : Mem} : ∀ {n : Nat} {v2 : Int32} {μ : Mem}, Copies_reckon_l4 v1 n v2 μ = some μo → Fr [203, 204] μ μo := by
  intro n
  induction n with
  | zero => intro v2 μ h; exact noS h
  | succ n ih =>
    intro v2 μ h
    replace h : Copies_reckon_l4b v1 (Copies_reckon_l4 v1 n) v2 μ = some μo := h
    unfold Copies_reckon_l4b at h
    have hF : Fr [203, 204] μ μ := Fr.refl
    rcases iteS h with h | h
    · obtain ⟨μ1, h1, h⟩ := bdS h
      replace hF := hF.trans ((Copies_addCopy_fr h1).mono (by decide))
      obtain ⟨_, _, h⟩ := bdS h
      exact hF.trans (ih h)
    · cases h; exact hF
set_option maxRecDepth 100000 in
theorem Copies_reckon_l3_fr {μo : Mem} : ∀ {n : Nat} {v1 : Int32} {μ : Mem}, Copies_reckon_l3 n v1 μ = some μo → Fr [203, 204] μ μo := by
  intro n
  induction n with
  | zero => intro v1 μ h; exact noS h
  | succ n ih =>
    intro v1 μ h
    replace h : Copies_reckon_l3b (Copies_reckon_l3 n) v1 μ = some μo := h
    unfold Copies_reckon_l3b at h
    have hF : Fr [203, 204] μ μ := Fr.refl
    rcases iteS h with h | h
    · cases h; exact hF
    · obtain ⟨μ1, h1, h⟩ := bdS h
      replace hF := hF.trans ((Copies_reckon_l4_fr h1).mono (by decide))
      obtain ⟨_, _, h⟩ := bdS h
      exact hF.trans (ih h)
set_option maxRecDepth 100000 in
theorem Copies_reckon_fr {μ : Mem} {μ' : Mem} (h : Copies_reckon μ = some μ') : Fr [203, 204] μ μ' := by
  unfold Copies_reckon at h
  have hF : Fr [203, 204] μ μ := Fr.refl
  obtain ⟨μ1, h1, h⟩ := bdS h
  replace hF := hF.trans ((Copies_reckon_l1_fr h1).mono (by decide))
  obtain ⟨_, _, h⟩ := bdS h
  obtain ⟨μ3, h1, h⟩ := bdS h
  replace hF := hF.trans ((Copies_reckon_l3_fr h1).mono (by decide))
  cases h; exact hF
set_option maxRecDepth 100000 in
theorem B_cost_fr {a1 : Int32} {μ : Mem} {r : Int32} {μ' : Mem} (h : B_cost a1 μ = some (r, μ')) : Fr [203, 204] μ μ' := by
  unfold B_cost at h
  have hF : Fr [203, 204] μ μ := Fr.refl
  obtain ⟨_, _, h⟩ := bdS h
  rcases iteS h with h | h
  · cases h; exact hF
  · obtain ⟨μ2, h1, h⟩ := bdS h
    replace hF := hF.trans ((Copies_reckon_fr h1).mono (by decide))
    obtain ⟨_, _, h⟩ := bdS h
    obtain ⟨_, _, h⟩ := bdS h
    cases h; exact hF
set_option maxRecDepth 100000 in
theorem B_ways_fr {a1 : Int32} {μ : Mem} {r : Int64} {μ' : Mem} (h : B_ways a1 μ = some (r, μ')) : Fr [203, 204] μ μ' := by
  unfold B_ways at h
  have hF : Fr [203, 204] μ μ := Fr.refl
  obtain ⟨_, _, h⟩ := bdS h
  rcases iteS h with h | h
  · cases h; exact hF
  · obtain ⟨μ2, h1, h⟩ := bdS h
    replace hF := hF.trans ((Copies_reckon_fr h1).mono (by decide))
    obtain ⟨_, _, h⟩ := bdS h
    obtain ⟨_, _, h⟩ := bdS h
    cases h; exact hF
set_option maxRecDepth 100000 in
theorem B_first_fr {μ : Mem} {r : Int32} {μ' : Mem} (h : B_first μ = some (r, μ')) : Fr [203, 204] μ μ' := by
  unfold B_first at h
  have hF : Fr [203, 204] μ μ := Fr.refl
  obtain ⟨μ1, h1, h⟩ := bdS h
  replace hF := hF.trans ((Copies_reckon_fr h1).mono (by decide))
  obtain ⟨_, _, h⟩ := bdS h
  cases h; exact hF
set_option maxRecDepth 100000 in
theorem Copies_wordsOf_l1_fr {v1 : Int32} {v2 : Int32} {μo : Mem} : ∀ {n : Nat} {v3 : Int32} {μ : Mem}, Copies_wordsOf_l1 v1 v2 n v3 μ = some μo → Fr [205] μ μo := by
  intro n
  induction n with
  | zero => intro v3 μ h; exact noS h
  | succ n ih =>
    intro v3 μ h
    replace h : Copies_wordsOf_l1b v1 v2 (Copies_wordsOf_l1 v1 v2 n) v3 μ = some μo := h
    unfold Copies_wordsOf_l1b at h
    have hF : Fr [205] μ μ := Fr.refl
    rcases iteS h with h | h
    · obtain ⟨_, _, h⟩ := bdS h
      obtain ⟨_, _, h⟩ := bdS h
      obtain ⟨μ5, hj, h⟩ := bdS h
      replace hF : Fr [205] μ μ5 := by
        clear h
        replace h := hj
        clear hj
        rcases iteS h with h | h
        · obtain ⟨_, _, h⟩ := bdS h
          obtain ⟨μ4, h1, h⟩ := bdS h
          replace hF := fr_mWr (by decide) hF h1
          cases h; exact hF
        · cases h; exact hF
      obtain ⟨_, _, h⟩ := bdS h
      exact hF.trans (ih h)
    · cases h; exact hF
set_option maxRecDepth 100000 in
theorem Copies_wordsOf_l2_fr {v1 : Int32} {μo : Mem} : ∀ {n : Nat} {v3 : Int32} {μ : Mem}, Copies_wordsOf_l2 v1 n v3 μ = some μo → Fr [205] μ μo := by
  intro n
  induction n with
  | zero => intro v3 μ h; exact noS h
  | succ n ih =>
    intro v3 μ h
    replace h : Copies_wordsOf_l2b v1 (Copies_wordsOf_l2 v1 n) v3 μ = some μo := h
    unfold Copies_wordsOf_l2b at h
    have hF : Fr [205] μ μ := Fr.refl
    rcases iteS h with h | h
    · cases h; exact hF
    · obtain ⟨_, _, h⟩ := bdS h
      obtain ⟨_, _, h⟩ := bdS h
      obtain ⟨_, _, h⟩ := bdS h
      obtain ⟨μ4, h1, h⟩ := bdS h
      replace hF := fr_mWr (by decide) hF h1
      obtain ⟨_, _, h⟩ := bdS h
      exact hF.trans (ih h)
set_option maxRecDepth 100000 in
theorem Copies_wordsOf_fr {a1 : Int32} {μ : Mem} {r : Int32} {μ' : Mem} (h : Copies_wordsOf a1 μ = some (r, μ')) : Fr [205] μ μ' := by
  unfold Copies_wordsOf at h
  have hF : Fr [205] μ μ := Fr.refl
  obtain ⟨_, _, h⟩ := bdS h
  obtain ⟨_, _, h⟩ := bdS h
  obtain ⟨_, _, h⟩ := bdS h
  obtain ⟨μ4, h1, h⟩ := bdS h
  replace hF := fr_mWr (by decide) hF h1
  obtain ⟨μ5, h1, h⟩ := bdS h
  replace hF := hF.trans ((Copies_wordsOf_l1_fr h1).mono (by decide))
  obtain ⟨μ6, h1, h⟩ := bdS h
  replace hF := hF.trans ((Copies_wordsOf_l2_fr h1).mono (by decide))
  obtain ⟨_, _, h⟩ := bdS h
  cases h; exact hF
set_option maxRecDepth 100000 in
theorem B_could_fr {a1 : Int32} {μ : Mem} {r : Int32} {μ' : Mem} (h : B_could a1 μ = some (r, μ')) : Fr [203, 204, 205] μ μ' := by
  unfold B_could at h
  have hF : Fr [203, 204, 205] μ μ := Fr.refl
  obtain ⟨_, _, h⟩ := bdS h
  rcases iteS h with h | h
  · cases h; exact hF
  · obtain ⟨μ2, h1, h⟩ := bdS h
    replace hF := hF.trans ((Copies_reckon_fr h1).mono (by decide))
    obtain ⟨⟨x3, μ4⟩, h1, h⟩ := bdS h
    replace hF := hF.trans ((Copies_wordsOf_fr h1).mono (by decide))
    cases h; exact hF
set_option maxRecDepth 100000 in
theorem Account_put_fr {a1 : Int32} {a2 : Int32} {μ : Mem} {r : Int32} {μ' : Mem} (h : Account_put a1 a2 μ = some (r, μ')) : Fr [103, 104, 106] μ μ' := by
  unfold Account_put at h
  have hF : Fr [103, 104, 106] μ μ := Fr.refl
  obtain ⟨μ1, h1, h⟩ := bdS h
  replace hF := fr_mWr (by decide) hF h1
  obtain ⟨μ2, h1, h⟩ := bdS h
  replace hF := fr_mWz (by decide) hF h1
  obtain ⟨μ3, h1, h⟩ := bdS h
  replace hF := fr_mSI (by decide) hF h1
  cases h; exact hF
set_option maxRecDepth 100000 in
theorem B_day_fr {a1 : Int32} {a2 : Int32} {μ : Mem} {r : Int32} {μ' : Mem} (h : B_day a1 a2 μ = some (r, μ')) : Fr [103, 104, 106] μ μ' := by
  unfold B_day at h
  have hF : Fr [103, 104, 106] μ μ := Fr.refl
  obtain ⟨_, _, h⟩ := bdS h
  rcases iteS h with h | h
  · cases h; exact hF
  · rcases iteS h with h | h
    · obtain ⟨⟨x2, μ3⟩, h1, h⟩ := bdS h
      replace hF := hF.trans ((Account_put_fr h1).mono (by decide))
      cases h; exact hF
    · cases h; exact hF
set_option maxRecDepth 100000 in
theorem B_bought_fr {a1 : Int32} {a2 : Int32} {a3 : Int32} {μ : Mem} {r : Int32} {μ' : Mem} (h : B_bought a1 a2 a3 μ = some (r, μ')) : Fr [105] μ μ' := by
  unfold B_bought at h
  have hF : Fr [105] μ μ := Fr.refl
  obtain ⟨_, _, h⟩ := bdS h
  rcases iteS h with h | h
  · obtain ⟨_, _, h⟩ := bdS h
    cases h; exact hF
  · obtain ⟨_, _, h⟩ := bdS h
    rcases iteS h with h | h
    · obtain ⟨_, _, h⟩ := bdS h
      cases h; exact hF
    · obtain ⟨_, _, h⟩ := bdS h
      rcases iteS h with h | h
      · obtain ⟨_, _, h⟩ := bdS h
        cases h; exact hF
      · obtain ⟨_, _, h⟩ := bdS h
        obtain ⟨μ5, h1, h⟩ := bdS h
        replace hF := fr_mWr (by decide) hF h1
        obtain ⟨_, _, h⟩ := bdS h
        cases h; exact hF
set_option maxRecDepth 100000 in
theorem Account_isServed_fr {a1 : Int32} {a2 : Int32} {μ : Mem} {r : Int32} {μ' : Mem} (h : Account_isServed a1 a2 μ = some (r, μ')) : Fr [502, 503, 909, 910, 911, 912, 913, 914, 915, 916, 917, 918] μ μ' := by
  unfold Account_isServed at h
  have hF : Fr [502, 503, 909, 910, 911, 912, 913, 914, 915, 916, 917, 918] μ μ := Fr.refl
  obtain ⟨_, _, h⟩ := bdS h
  obtain ⟨k3, hkk3, h⟩ := kE h
  have Jk3 : Fr [502, 503, 909, 910, 911, 912, 913, 914, 915, 916, 917, 918] μ μ → k3 () = some (r, μ') → Fr [502, 503, 909, 910, 911, 912, 913, 914, 915, 916, 917, 918] μ μ' := by
    clear h hF
    intro hF h
    rw [hkk3] at h
    obtain ⟨_, _, h⟩ := bdS h
    obtain ⟨_, _, h⟩ := bdS h
    obtain ⟨_, _, h⟩ := bdS h
    rcases iteS h with h | h
    · obtain ⟨_, _, h⟩ := bdS h
      cases h; exact hF
    · obtain ⟨_, _, h⟩ := bdS h
      obtain ⟨⟨x11, μ12⟩, hj, h⟩ := bdS h
      replace hF : Fr [502, 503, 909, 910, 911, 912, 913, 914, 915, 916, 917, 918] μ μ12 := by
        clear h
        replace h := hj
        clear hj
        rcases iteS h with h | h
        · obtain ⟨⟨x8, μ9⟩, h1, h⟩ := bdS h
          replace hF := hF.trans ((Pot_lay_fr h1).mono (by decide))
          cases h; exact hF
        · obtain ⟨_, _, h⟩ := bdS h
          cases h; exact hF
      rcases iteS h with h | h
      · obtain ⟨_, _, h⟩ := bdS h
        cases h; exact hF
      · obtain ⟨_, _, h⟩ := bdS h
        cases h; exact hF
  rcases iteS h with h | h
  · exact Jk3 hF h
  · obtain ⟨_, _, h⟩ := bdS h
    rcases iteS h with h | h
    · exact Jk3 hF h
    · obtain ⟨_, _, h⟩ := bdS h
      cases h; exact hF
set_option maxRecDepth 100000 in
theorem B_may_fr {a1 : Int32} {a2 : Int32} {μ : Mem} {r : Int32} {μ' : Mem} (h : B_may a1 a2 μ = some (r, μ')) : Fr [502, 503, 909, 910, 911, 912, 913, 914, 915, 916, 917, 918] μ μ' := by
  unfold B_may at h
  have hF : Fr [502, 503, 909, 910, 911, 912, 913, 914, 915, 916, 917, 918] μ μ := Fr.refl
  obtain ⟨_, _, h⟩ := bdS h
  rcases iteS h with h | h
  · cases h; exact hF
  · obtain ⟨_, _, h⟩ := bdS h
    rcases iteS h with h | h
    · cases h; exact hF
    · obtain ⟨⟨x3, μ4⟩, h1, h⟩ := bdS h
      replace hF := hF.trans ((Account_isServed_fr h1).mono (by decide))
      rcases iteS h with h | h
      · cases h; exact hF
      · cases h; exact hF
set_option maxRecDepth 100000 in
theorem Menus_setPlace_l1_fr {v1 : Int32} {v2 : Int32} {μo : Mem} : ∀ {n : Nat} {v3 : Int32} {μ : Mem}, Menus_setPlace_l1 v1 v2 n v3 μ = some μo → Fr [603, 604, 605, 607, 610, 611] μ μo := by
  intro n
  induction n with
  | zero => intro v3 μ h; exact noS h
  | succ n ih =>
    intro v3 μ h
    replace h : Menus_setPlace_l1b v1 v2 (Menus_setPlace_l1 v1 v2 n) v3 μ = some μo := h
    unfold Menus_setPlace_l1b at h
    have hF : Fr [603, 604, 605, 607, 610, 611] μ μ := Fr.refl
    rcases iteS h with h | h
    · obtain ⟨_, _, h⟩ := bdS h
      obtain ⟨μ2, h1, h⟩ := bdS h
      replace hF := fr_mWr (by decide) hF h1
      obtain ⟨_, _, h⟩ := bdS h
      exact hF.trans (ih h)
    · cases h; exact hF
set_option maxRecDepth 100000 in
theorem Menus_setPlace_l2_fr {v1 : Int32} {v2 : Int32} {μo : Mem} : ∀ {n : Nat} {v3 : Int32} {μ : Mem}, Menus_setPlace_l2 v1 v2 n v3 μ = some μo → Fr [603, 604, 605, 607, 610, 611] μ μo := by
  intro n
  induction n with
  | zero => intro v3 μ h; exact noS h
  | succ n ih =>
    intro v3 μ h
    replace h : Menus_setPlace_l2b v1 v2 (Menus_setPlace_l2 v1 v2 n) v3 μ = some μo := h
    unfold Menus_setPlace_l2b at h
    have hF : Fr [603, 604, 605, 607, 610, 611] μ μ := Fr.refl
    obtain ⟨_, _, h⟩ := bdS h
    rcases iteS h with h | h
    · rcases iteS h with h | h
      · cases h; exact hF
      · obtain ⟨_, _, h⟩ := bdS h
        obtain ⟨_, _, h⟩ := bdS h
        obtain ⟨_, _, h⟩ := bdS h
        obtain ⟨_, _, h⟩ := bdS h
        obtain ⟨_, _, h⟩ := bdS h
        obtain ⟨μ7, h1, h⟩ := bdS h
        replace hF := fr_mWr (by decide) hF h1
        obtain ⟨_, _, h⟩ := bdS h
        exact hF.trans (ih h)
    · cases h; exact hF
set_option maxRecDepth 100000 in
theorem Menus_setPlace_fr {a1 : Int32} {a2 : Int32} {μ : Mem} {μ' : Mem} (h : Menus_setPlace a1 a2 μ = some μ') : Fr [603, 604, 605, 607, 610, 611] μ μ' := by
  unfold Menus_setPlace at h
  have hF : Fr [603, 604, 605, 607, 610, 611] μ μ := Fr.refl
  obtain ⟨μ1, h1, h⟩ := bdS h
  replace hF := fr_mWr (by decide) hF h1
  obtain ⟨x2, _, h⟩ := bdS h
  obtain ⟨μ3, h1, h⟩ := bdS h
  replace hF := fr_mWr (by decide) hF h1
  obtain ⟨μ4, h1, h⟩ := bdS h
  replace hF := hF.trans ((Menus_setPlace_l1_fr h1).mono (by decide))
  obtain ⟨μ5, h1, h⟩ := bdS h
  replace hF := hF.trans ((Menus_setPlace_l2_fr h1).mono (by decide))
  obtain ⟨_, _, h⟩ := bdS h
  obtain ⟨μ7, h1, h⟩ := bdS h
  replace hF := fr_mSI (by decide) hF h1
  obtain ⟨μ8, h1, h⟩ := bdS h
  replace hF := fr_mWr (by decide) hF h1
  obtain ⟨μ9, h1, h⟩ := bdS h
  replace hF := fr_mSI (by decide) hF h1
  cases h; exact hF
set_option maxRecDepth 100000 in
theorem Menus_clearFound_fr {μ : Mem} {μ' : Mem} (h : Menus_clearFound μ = some μ') : Fr [609] μ μ' := by
  unfold Menus_clearFound at h
  have hF : Fr [609] μ μ := Fr.refl
  obtain ⟨μ1, h1, h⟩ := bdS h
  replace hF := fr_mWr (by decide) hF h1
  obtain ⟨μ2, h1, h⟩ := bdS h
  replace hF := fr_mWr (by decide) hF h1
  obtain ⟨μ3, h1, h⟩ := bdS h
  replace hF := fr_mWr (by decide) hF h1
  obtain ⟨μ4, h1, h⟩ := bdS h
  replace hF := fr_mWr (by decide) hF h1
  obtain ⟨μ5, h1, h⟩ := bdS h
  replace hF := fr_mWr (by decide) hF h1
  obtain ⟨μ6, h1, h⟩ := bdS h
  replace hF := fr_mWr (by decide) hF h1
  obtain ⟨μ7, h1, h⟩ := bdS h
  replace hF := fr_mWr (by decide) hF h1
  obtain ⟨μ8, h1, h⟩ := bdS h
  replace hF := fr_mWr (by decide) hF h1
  cases h; exact hF
set_option maxRecDepth 100000 in
theorem Menus_noteLean_fr {a1 : Int32} {a2 : Int32} {μ : Mem} {μ' : Mem} (h : Menus_noteLean a1 a2 μ = some μ') : Fr [609] μ μ' := by
  unfold Menus_noteLean at h
  have hF : Fr [609] μ μ := Fr.refl
  obtain ⟨_, _, h⟩ := bdS h
  obtain ⟨μ9, hj, h⟩ := bdS h
  replace hF : Fr [609] μ μ9 := by
    clear h
    replace h := hj
    clear hj
    rcases iteS h with h | h
    · obtain ⟨μ2, h1, h⟩ := bdS h
      replace hF := fr_mWr (by decide) hF h1
      obtain ⟨μ3, h1, h⟩ := bdS h
      replace hF := fr_mWr (by decide) hF h1
      obtain ⟨μ4, h1, h⟩ := bdS h
      replace hF := fr_mWr (by decide) hF h1
      cases h; exact hF
    · obtain ⟨_, _, h⟩ := bdS h
      rcases iteS h with h | h
      · obtain ⟨μ6, h1, h⟩ := bdS h
        replace hF := fr_mWr (by decide) hF h1
        obtain ⟨μ7, h1, h⟩ := bdS h
        replace hF := fr_mWr (by decide) hF h1
        obtain ⟨μ8, h1, h⟩ := bdS h
        replace hF := fr_mWr (by decide) hF h1
        cases h; exact hF
      · cases h; exact hF
  obtain ⟨_, _, h⟩ := bdS h
  rcases iteS h with h | h
  · obtain ⟨_, _, h⟩ := bdS h
    obtain ⟨μ12, h1, h⟩ := bdS h
    replace hF := fr_mWr (by decide) hF h1
    cases h; exact hF
  · cases h; exact hF
set_option maxRecDepth 100000 in
theorem Menus_noteWaste_fr {a1 : Int32} {a2 : Int32} {a3 : Int32} {μ : Mem} {μ' : Mem} (h : Menus_noteWaste a1 a2 a3 μ = some μ') : Fr [608, 609, 614] μ μ' := by
  unfold Menus_noteWaste at h
  have hF : Fr [608, 609, 614] μ μ := Fr.refl
  obtain ⟨_, _, h⟩ := bdS h
  obtain ⟨_, _, h⟩ := bdS h
  obtain ⟨μ4, h1, h⟩ := bdS h
  replace hF := hF.trans ((Menus_noteLean_fr h1).mono (by decide))
  rcases iteS h with h | h
  · cases h; exact hF
  · rcases iteS h with h | h
    · cases h; exact hF
    · obtain ⟨μ5, h1, h⟩ := bdS h
      replace hF := fr_mCP (by decide) hF h1
      obtain ⟨μ6, h1, h⟩ := bdS h
      replace hF := fr_mWr (by decide) hF h1
      obtain ⟨_, _, h⟩ := bdS h
      obtain ⟨μ8, h1, h⟩ := bdS h
      replace hF := fr_mSI (by decide) hF h1
      cases h; exact hF
set_option maxRecDepth 100000 in
theorem Menus_noteMenus_fr {a1 : Int32} {a2 : Int32} {a3 : Int32} {μ : Mem} {μ' : Mem} (h : Menus_noteMenus a1 a2 a3 μ = some μ') : Fr [608, 609, 614] μ μ' := by
  unfold Menus_noteMenus at h
  have hF : Fr [608, 609, 614] μ μ := Fr.refl
  rcases iteS h with h | h
  · cases h; exact hF
  · obtain ⟨_, _, h⟩ := bdS h
    obtain ⟨_, _, h⟩ := bdS h
    obtain ⟨_, _, h⟩ := bdS h
    obtain ⟨x5, _, h⟩ := bdS h
    obtain ⟨_, _, h⟩ := bdS h
    obtain ⟨x8, _, h⟩ := bdS h
    obtain ⟨μ9, h1, h⟩ := bdS h
    replace hF := fr_mWr (by decide) hF h1
    obtain ⟨_, _, h⟩ := bdS h
    obtain ⟨x11, _, h⟩ := bdS h
    obtain ⟨μ12, h1, h⟩ := bdS h
    replace hF := fr_mWr (by decide) hF h1
    obtain ⟨x14, _, h⟩ := bdS h
    obtain ⟨μ15, h1, h⟩ := bdS h
    replace hF := fr_mWr (by decide) hF h1
    obtain ⟨_, _, h⟩ := bdS h
    obtain ⟨μ17, h1, h⟩ := bdS h
    replace hF := fr_mWr (by decide) hF h1
    obtain ⟨μ18, h1, h⟩ := bdS h
    replace hF := hF.trans ((Menus_noteWaste_fr h1).mono (by decide))
    obtain ⟨μ19, h1, h⟩ := bdS h
    replace hF := fr_mWr (by decide) hF h1
    cases h; exact hF
set_option maxRecDepth 100000 in
theorem Menus_use_l1_fr {v1 : Int32} {v2 : Int32} {μo : Mem} : ∀ {n : Nat} {v3 : Int32} {μ : Mem}, Menus_use_l1 v1 v2 n v3 μ = some μo → Fr [606] μ μo := by
  intro n
  induction n with
  | zero => intro v3 μ h; exact noS h
  | succ n ih =>
    intro v3 μ h
    replace h : Menus_use_l1b v1 v2 (Menus_use_l1 v1 v2 n) v3 μ = some μo := h
    unfold Menus_use_l1b at h
    have hF : Fr [606] μ μ := Fr.refl
    rcases iteS h with h | h
    · obtain ⟨_, _, h⟩ := bdS h
      obtain ⟨_, _, h⟩ := bdS h
      obtain ⟨_, _, h⟩ := bdS h
      obtain ⟨μ4, h1, h⟩ := bdS h
      replace hF := fr_mWr (by decide) hF h1
      obtain ⟨_, _, h⟩ := bdS h
      exact hF.trans (ih h)
    · cases h; exact hF
set_option maxRecDepth 100000 in
theorem Menus_use_fr {a1 : Int32} {a2 : Int32} {μ : Mem} {μ' : Mem} (h : Menus_use a1 a2 μ = some μ') : Fr [606] μ μ' := by
  unfold Menus_use at h
  have hF : Fr [606] μ μ := Fr.refl
  obtain ⟨μ1, h1, h⟩ := bdS h
  replace hF := hF.trans ((Menus_use_l1_fr h1).mono (by decide))
  cases h; exact hF
set_option maxRecDepth 100000 in
theorem Menus_choose_l1_fr {r_Menus_choose : Int32 → Mem → Option Mem} (fh_Menus_choose : ∀ {a1 : Int32} {μ : Mem} {μ' : Mem}, r_Menus_choose a1 μ = some μ' → Fr [606, 607, 608, 609, 614] μ μ') {v1 : Int32} {v2 : Int32} {μo : Mem} : ∀ {n : Nat} {v3 : Int32} {μ : Mem}, Menus_choose_l1 r_Menus_choose v1 v2 n v3 μ = some μo → Fr [606, 607, 608, 609, 614] μ μo := by
  intro n
  induction n with
  | zero => intro v3 μ h; exact noS h
  | succ n ih =>
    intro v3 μ h
    replace h : Menus_choose_l1b r_Menus_choose v1 v2 (Menus_choose_l1 r_Menus_choose v1 v2 n) v3 μ = some μo := h
    unfold Menus_choose_l1b at h
    have hF : Fr [606, 607, 608, 609, 614] μ μ := Fr.refl
    rcases iteS h with h | h
    · cases h; exact hF
    · obtain ⟨μ1, h1, h⟩ := bdS h
      replace hF := fr_mWr (by decide) hF h1
      obtain ⟨μ2, h1, h⟩ := bdS h
      replace hF := hF.trans ((fh_Menus_choose h1).mono (by decide))
      obtain ⟨μ3, h1, h⟩ := bdS h
      replace hF := hF.trans ((Menus_use_fr h1).mono (by decide))
      obtain ⟨_, _, h⟩ := bdS h
      exact hF.trans (ih h)
set_option maxRecDepth 100000 in
theorem Menus_choose_B_fr {r_Menus_choose : Int32 → Mem → Option Mem} (fh_Menus_choose : ∀ {a1 : Int32} {μ : Mem} {μ' : Mem}, r_Menus_choose a1 μ = some μ' → Fr [606, 607, 608, 609, 614] μ μ') {a1 : Int32} {μ : Mem} {μ' : Mem} (h : Menus_choose_B r_Menus_choose a1 μ = some μ') : Fr [606, 607, 608, 609, 614] μ μ' := by
  unfold Menus_choose_B at h
  have hF : Fr [606, 607, 608, 609, 614] μ μ := Fr.refl
  rcases iteS h with h | h
  · rcases iteS h with h | h
    · obtain ⟨_, _, h⟩ := bdS h
      rcases iteS h with h | h
      · obtain ⟨_, _, h⟩ := bdS h
        obtain ⟨μ5, h1, h⟩ := bdS h
        replace hF := hF.trans ((Menus_noteMenus_fr h1).mono (by decide))
        cases h; exact hF
      · obtain ⟨μ2, h1, h⟩ := bdS h
        replace hF := hF.trans ((Menus_choose_l1_fr fh_Menus_choose h1).mono (by decide))
        obtain ⟨μ3, h1, h⟩ := bdS h
        replace hF := hF.trans ((Menus_use_fr h1).mono (by decide))
        cases h; exact hF
    · cases h; exact hF
  · cases h; exact hF
theorem G_Menus_choose_fr : ∀ n : Nat, (∀ {a1 : Int32} {μ : Mem} {μ' : Mem}, Menus_choose n a1 μ = some μ' → Fr [606, 607, 608, 609, 614] μ μ') := by
  intro n
  induction n with
  | zero => exact fun h => noS h
  | succ n ih =>
    have fh_Menus_choose := @ih
    · intro a1 μ μ' h
      rw [Menus_choose_s] at h
      exact Menus_choose_B_fr fh_Menus_choose h

theorem Menus_choose_fr {n : Nat} {a1 : Int32} {μ : Mem} {μ' : Mem} (h : Menus_choose n a1 μ = some μ') : Fr [606, 607, 608, 609, 614] μ μ' := (G_Menus_choose_fr n) h
set_option maxRecDepth 100000 in
theorem Menus_layOut_l1_fr {v1 : Int32} {v2 : Int32} {μo : Mem} : ∀ {n : Nat} {v5 : Int32} {μ : Mem}, Menus_layOut_l1 v1 v2 n v5 μ = some μo → Fr [502, 503, 603, 604, 605, 606, 607, 608, 609, 610, 611, 612, 613, 614, 909, 910, 911, 912, 913, 914, 915, 916, 917, 918] μ μo := by
  intro n
  induction n with
  | zero => intro v5 μ h; exact noS h
  | succ n ih =>
    intro v5 μ h
    replace h : Menus_layOut_l1b v1 v2 (Menus_layOut_l1 v1 v2 n) v5 μ = some μo := h
    unfold Menus_layOut_l1b at h
    have hF : Fr [502, 503, 603, 604, 605, 606, 607, 608, 609, 610, 611, 612, 613, 614, 909, 910, 911, 912, 913, 914, 915, 916, 917, 918] μ μ := Fr.refl
    rcases iteS h with h | h
    · obtain ⟨_, _, h⟩ := bdS h
      obtain ⟨μ5, hj, h⟩ := bdS h
      replace hF : Fr [502, 503, 603, 604, 605, 606, 607, 608, 609, 610, 611, 612, 613, 614, 909, 910, 911, 912, 913, 914, 915, 916, 917, 918] μ μ5 := by
        clear h
        replace h := hj
        clear hj
        rcases iteS h with h | h
        · cases h; exact hF
        · rcases iteS h with h | h
          · obtain ⟨⟨x2, μ3⟩, h1, h⟩ := bdS h
            replace hF := hF.trans ((Account_isServed_fr h1).mono (by decide))
            obtain ⟨μ4, h1, h⟩ := bdS h
            replace hF := hF.trans ((Menus_setPlace_fr h1).mono (by decide))
            cases h; exact hF
          · cases h; exact hF
      obtain ⟨_, _, h⟩ := bdS h
      exact hF.trans (ih h)
    · cases h; exact hF
set_option maxRecDepth 100000 in
theorem Menus_layOut_l2_fr {v1 : Int32} {μo : Mem} : ∀ {n : Nat} {v5 : Int32} {μ : Mem}, Menus_layOut_l2 v1 n v5 μ = some μo → Fr [502, 503, 603, 604, 605, 606, 607, 608, 609, 610, 611, 612, 613, 614, 909, 910, 911, 912, 913, 914, 915, 916, 917, 918] μ μo := by
  intro n
  induction n with
  | zero => intro v5 μ h; exact noS h
  | succ n ih =>
    intro v5 μ h
    replace h : Menus_layOut_l2b v1 (Menus_layOut_l2 v1 n) v5 μ = some μo := h
    unfold Menus_layOut_l2b at h
    have hF : Fr [502, 503, 603, 604, 605, 606, 607, 608, 609, 610, 611, 612, 613, 614, 909, 910, 911, 912, 913, 914, 915, 916, 917, 918] μ μ := Fr.refl
    rcases iteS h with h | h
    · obtain ⟨_, _, h⟩ := bdS h
      obtain ⟨_, _, h⟩ := bdS h
      obtain ⟨μ3, h1, h⟩ := bdS h
      replace hF := fr_mWr (by decide) hF h1
      obtain ⟨_, _, h⟩ := bdS h
      exact hF.trans (ih h)
    · cases h; exact hF
set_option maxRecDepth 100000 in
theorem Menus_layOut_fr {a1 : Int32} {a2 : Int32} {a3 : Int32} {a4 : Int32} {μ : Mem} {μ' : Mem} (h : Menus_layOut a1 a2 a3 a4 μ = some μ') : Fr [502, 503, 603, 604, 605, 606, 607, 608, 609, 610, 611, 612, 613, 614, 909, 910, 911, 912, 913, 914, 915, 916, 917, 918] μ μ' := by
  unfold Menus_layOut at h
  have hF : Fr [502, 503, 603, 604, 605, 606, 607, 608, 609, 610, 611, 612, 613, 614, 909, 910, 911, 912, 913, 914, 915, 916, 917, 918] μ μ := Fr.refl
  obtain ⟨μ1, h1, h⟩ := bdS h
  replace hF := fr_mSI (by decide) hF h1
  obtain ⟨μ2, h1, h⟩ := bdS h
  replace hF := fr_mSI (by decide) hF h1
  obtain ⟨μ3, h1, h⟩ := bdS h
  replace hF := fr_mSI (by decide) hF h1
  obtain ⟨μ4, h1, h⟩ := bdS h
  replace hF := fr_mSI (by decide) hF h1
  obtain ⟨μ5, h1, h⟩ := bdS h
  replace hF := hF.trans ((Menus_layOut_l1_fr h1).mono (by decide))
  obtain ⟨μ6, h1, h⟩ := bdS h
  replace hF := hF.trans ((Menus_layOut_l2_fr h1).mono (by decide))
  obtain ⟨μ7, h1, h⟩ := bdS h
  replace hF := hF.trans ((Menus_clearFound_fr h1).mono (by decide))
  obtain ⟨μ8, h1, h⟩ := bdS h
  replace hF := hF.trans ((Menus_choose_fr h1).mono (by decide))
  cases h; exact hF
set_option maxRecDepth 100000 in
theorem B_menu_fr {a1 : Int32} {a2 : Int32} {a3 : Int32} {a4 : Int32} {μ : Mem} {r : Int32} {μ' : Mem} (h : B_menu a1 a2 a3 a4 μ = some (r, μ')) : Fr [502, 503, 603, 604, 605, 606, 607, 608, 609, 610, 611, 612, 613, 614, 909, 910, 911, 912, 913, 914, 915, 916, 917, 918] μ μ' := by
  unfold B_menu at h
  have hF : Fr [502, 503, 603, 604, 605, 606, 607, 608, 609, 610, 611, 612, 613, 614, 909, 910, 911, 912, 913, 914, 915, 916, 917, 918] μ μ := Fr.refl
  obtain ⟨_, _, h⟩ := bdS h
  rcases iteS h with h | h
  · cases h; exact hF
  · obtain ⟨_, _, h⟩ := bdS h
    rcases iteS h with h | h
    · cases h; exact hF
    · obtain ⟨μ3, h1, h⟩ := bdS h
      replace hF := hF.trans ((Menus_layOut_fr h1).mono (by decide))
      obtain ⟨_, _, h⟩ := bdS h
      cases h; exact hF
set_option maxRecDepth 100000 in
theorem B_messes_fr {a1 : Int32} {a2 : Int32} {a3 : Int32} {a4 : Int32} {a5 : Int32} {μ : Mem} {r : Int32} {μ' : Mem} (h : B_messes a1 a2 a3 a4 a5 μ = some (r, μ')) : Fr [502, 503, 603, 604, 605, 606, 607, 608, 609, 610, 611, 612, 613, 614, 909, 910, 911, 912, 913, 914, 915, 916, 917, 918] μ μ' := by
  unfold B_messes at h
  have hF : Fr [502, 503, 603, 604, 605, 606, 607, 608, 609, 610, 611, 612, 613, 614, 909, 910, 911, 912, 913, 914, 915, 916, 917, 918] μ μ := Fr.refl
  rcases iteS h with h | h
  · cases h; exact hF
  · obtain ⟨_, _, h⟩ := bdS h
    rcases iteS h with h | h
    · cases h; exact hF
    · obtain ⟨μ2, h1, h⟩ := bdS h
      replace hF := hF.trans ((Menus_layOut_fr h1).mono (by decide))
      obtain ⟨_, _, h⟩ := bdS h
      rcases iteS h with h | h
      · obtain ⟨_, _, h⟩ := bdS h
        cases h; exact hF
      · cases h; exact hF
set_option maxRecDepth 100000 in
theorem Kin_take_l1_fr {v1 : Int32} {μo : Mem} : ∀ {n : Nat} {v2 : Int32} {μ : Mem}, Kin_take_l1 v1 n v2 μ = some μo → Fr [305, 306] μ μo := by
  intro n
  induction n with
  | zero => intro v2 μ h; exact noS h
  | succ n ih =>
    intro v2 μ h
    replace h : Kin_take_l1b v1 (Kin_take_l1 v1 n) v2 μ = some μo := h
    unfold Kin_take_l1b at h
    have hF : Fr [305, 306] μ μ := Fr.refl
    rcases iteS h with h | h
    · obtain ⟨_, _, h⟩ := bdS h
      obtain ⟨_, _, h⟩ := bdS h
      obtain ⟨_, _, h⟩ := bdS h
      obtain ⟨μ4, h1, h⟩ := bdS h
      replace hF := fr_mWr (by decide) hF h1
      obtain ⟨_, _, h⟩ := bdS h
      exact hF.trans (ih h)
    · cases h; exact hF
set_option maxRecDepth 100000 in
theorem Kin_take_fr {a1 : Int32} {μ : Mem} {μ' : Mem} (h : Kin_take a1 μ = some μ') : Fr [305, 306] μ μ' := by
  unfold Kin_take at h
  have hF : Fr [305, 306] μ μ := Fr.refl
  obtain ⟨μ1, h1, h⟩ := bdS h
  replace hF := fr_mWz (by decide) hF h1
  obtain ⟨μ2, h1, h⟩ := bdS h
  replace hF := hF.trans ((Kin_take_l1_fr h1).mono (by decide))
  cases h; exact hF
set_option maxRecDepth 100000 in
theorem Kin_leastJoin_l1_fr {μo : Mem} : ∀ {n : Nat} {v1 : Int32} {μ : Mem}, Kin_leastJoin_l1 n v1 μ = some μo → Fr [305, 306] μ μo := by
  intro n
  induction n with
  | zero => intro v1 μ h; exact noS h
  | succ n ih =>
    intro v1 μ h
    replace h : Kin_leastJoin_l1b (Kin_leastJoin_l1 n) v1 μ = some μo := h
    unfold Kin_leastJoin_l1b at h
    have hF : Fr [305, 306] μ μ := Fr.refl
    rcases iteS h with h | h
    · obtain ⟨x1, _, h⟩ := bdS h
      obtain ⟨μ2, h1, h⟩ := bdS h
      replace hF := fr_mWz (by decide) hF h1
      obtain ⟨_, _, h⟩ := bdS h
      obtain ⟨_, _, h⟩ := bdS h
      obtain ⟨μ5, h1, h⟩ := bdS h
      replace hF := fr_mWr (by decide) hF h1
      obtain ⟨_, _, h⟩ := bdS h
      exact hF.trans (ih h)
    · cases h; exact hF
set_option maxRecDepth 100000 in
theorem Kin_leastJoin_l2_fr {o1 : Int32} {μo : Mem} : ∀ {n : Nat} {v1 : Int32} {v2 : Int32} {μ : Mem}, Kin_leastJoin_l2 n v1 v2 μ = some (o1, μo) → Fr [305, 306] μ μo := by
  intro n
  induction n with
  | zero => intro v1 v2 μ h; exact noS h
  | succ n ih =>
    intro v1 v2 μ h
    replace h : Kin_leastJoin_l2b (Kin_leastJoin_l2 n) v1 v2 μ = some (o1, μo) := h
    unfold Kin_leastJoin_l2b at h
    have hF : Fr [305, 306] μ μ := Fr.refl
    rcases iteS h with h | h
    · obtain ⟨_, _, h⟩ := bdS h
      obtain ⟨⟨x5, μ6⟩, hj, h⟩ := bdS h
      replace hF : Fr [305, 306] μ μ6 := by
        clear h
        replace h := hj
        clear hj
        rcases iteS h with h | h
        · cases h; exact hF
        · obtain ⟨_, _, h⟩ := bdS h
          obtain ⟨_, _, h⟩ := bdS h
          obtain ⟨μ4, h1, h⟩ := bdS h
          replace hF := hF.trans ((Kin_take_fr h1).mono (by decide))
          cases h; exact hF
      obtain ⟨_, _, h⟩ := bdS h
      exact hF.trans (ih h)
    · cases h; exact hF
set_option maxRecDepth 100000 in
theorem Kin_leastJoin_fr {μ : Mem} {r : Int32} {μ' : Mem} (h : Kin_leastJoin μ = some (r, μ')) : Fr [305, 306] μ μ' := by
  unfold Kin_leastJoin at h
  have hF : Fr [305, 306] μ μ := Fr.refl
  obtain ⟨μ1, h1, h⟩ := bdS h
  replace hF := hF.trans ((Kin_leastJoin_l1_fr h1).mono (by decide))
  obtain ⟨⟨x2, μ3⟩, h1, h⟩ := bdS h
  replace hF := hF.trans ((Kin_leastJoin_l2_fr h1).mono (by decide))
  cases h; exact hF
set_option maxRecDepth 100000 in
theorem B_tree_fr {μ : Mem} {r : Int32} {μ' : Mem} (h : B_tree μ = some (r, μ')) : Fr [305, 306] μ μ' := by
  unfold B_tree at h
  have hF : Fr [305, 306] μ μ := Fr.refl
  obtain ⟨⟨x1, μ2⟩, h1, h⟩ := bdS h
  replace hF := hF.trans ((Kin_leastJoin_fr h1).mono (by decide))
  cases h; exact hF
set_option maxRecDepth 100000 in
theorem B_wrote_fr {a1 : Int32} {a2 : Int32} {μ : Mem} {r : Int32} {μ' : Mem} (h : B_wrote a1 a2 μ = some (r, μ')) : Fr [711] μ μ' := by
  unfold B_wrote at h
  have hF : Fr [711] μ μ := Fr.refl
  obtain ⟨_, _, h⟩ := bdS h
  rcases iteS h with h | h
  · obtain ⟨_, _, h⟩ := bdS h
    cases h; exact hF
  · obtain ⟨_, _, h⟩ := bdS h
    rcases iteS h with h | h
    · obtain ⟨_, _, h⟩ := bdS h
      cases h; exact hF
    · obtain ⟨μ3, h1, h⟩ := bdS h
      replace hF := fr_mWr (by decide) hF h1
      obtain ⟨_, _, h⟩ := bdS h
      cases h; exact hF
set_option maxRecDepth 100000 in
theorem B_weight_fr {a1 : Int32} {a2 : Int32} {a3 : Int32} {μ : Mem} {r : Int32} {μ' : Mem} (h : B_weight a1 a2 a3 μ = some (r, μ')) : Fr [502, 503, 909, 910, 911, 912, 913, 914, 915, 916, 917, 918] μ μ' := by
  unfold B_weight at h
  have hF : Fr [502, 503, 909, 910, 911, 912, 913, 914, 915, 916, 917, 918] μ μ := Fr.refl
  obtain ⟨_, _, h⟩ := bdS h
  rcases iteS h with h | h
  · cases h; exact hF
  · obtain ⟨⟨x2, μ3⟩, h1, h⟩ := bdS h
    replace hF := hF.trans ((B_shows_fr h1).mono (by decide))
    rcases iteS h with h | h
    · cases h; exact hF
    · obtain ⟨_, _, h⟩ := bdS h
      cases h; exact hF
set_option maxRecDepth 100000 in
theorem Taster_heftEdge_l1_fr {v1 : Int32} {v2 : Int32} {o1 : Int32} {μo : Mem} : ∀ {n : Nat} {v3 : Int32} {v4 : Int32} {μ : Mem}, Taster_heftEdge_l1 v1 v2 n v3 v4 μ = some (o1, μo) → Fr [917, 918] μ μo := by
  intro n
  induction n with
  | zero => intro v3 v4 μ h; exact noS h
  | succ n ih =>
    intro v3 v4 μ h
    replace h : Taster_heftEdge_l1b v1 v2 (Taster_heftEdge_l1 v1 v2 n) v3 v4 μ = some (o1, μo) := h
    unfold Taster_heftEdge_l1b at h
    have hF : Fr [917, 918] μ μ := Fr.refl
    obtain ⟨_, _, h⟩ := bdS h
    rcases iteS h with h | h
    · obtain ⟨μ2, h1, h⟩ := bdS h
      replace hF := hF.trans ((Pot_show_fr h1).mono (by decide))
      obtain ⟨_, _, h⟩ := bdS h
      obtain ⟨_, _, h⟩ := bdS h
      obtain ⟨_, _, h⟩ := bdS h
      exact hF.trans (ih h)
    · cases h; exact hF
set_option maxRecDepth 100000 in
theorem Taster_heftEdge_fr {a1 : Int32} {a2 : Int32} {μ : Mem} {r : Int32} {μ' : Mem} (h : Taster_heftEdge a1 a2 μ = some (r, μ')) : Fr [917, 918] μ μ' := by
  unfold Taster_heftEdge at h
  have hF : Fr [917, 918] μ μ := Fr.refl
  obtain ⟨μ1, h1, h⟩ := bdS h
  replace hF := hF.trans ((Pot_show_fr h1).mono (by decide))
  obtain ⟨_, _, h⟩ := bdS h
  obtain ⟨⟨x3, μ4⟩, h1, h⟩ := bdS h
  replace hF := hF.trans ((Taster_heftEdge_l1_fr h1).mono (by decide))
  cases h; exact hF
set_option maxRecDepth 100000 in
theorem B_serves_fr {a1 : Int32} {a2 : Int32} {a3 : Int32} {a4 : Int32} {μ : Mem} {r : Int32} {μ' : Mem} (h : B_serves a1 a2 a3 a4 μ = some (r, μ')) : Fr [502, 503, 909, 910, 911, 912, 913, 914, 915, 916, 917, 918] μ μ' := by
  unfold B_serves at h
  have hF : Fr [502, 503, 909, 910, 911, 912, 913, 914, 915, 916, 917, 918] μ μ := Fr.refl
  obtain ⟨_, _, h⟩ := bdS h
  rcases iteS h with h | h
  · cases h; exact hF
  · obtain ⟨_, _, h⟩ := bdS h
    rcases iteS h with h | h
    · cases h; exact hF
    · obtain ⟨_, _, h⟩ := bdS h
      rcases iteS h with h | h
      · cases h; exact hF
      · obtain ⟨⟨x4, μ5⟩, h1, h⟩ := bdS h
        replace hF := hF.trans ((B_laid_fr h1).mono (by decide))
        rcases iteS h with h | h
        · obtain ⟨⟨x6, μ7⟩, h1, h⟩ := bdS h
          replace hF := hF.trans ((Taster_heftEdge_fr h1).mono (by decide))
          obtain ⟨_, _, h⟩ := bdS h
          cases h; exact hF
        · cases h; exact hF
set_option maxRecDepth 100000 in
theorem B_boil_fr {a1 : Int32} {a2 : Int32} {a3 : Int32} {a4 : Int32} {μ : Mem} {r : Int32} {μ' : Mem} (h : B_boil a1 a2 a3 a4 μ = some (r, μ')) : Fr [502, 503, 909, 910, 911, 912, 913, 914, 915, 916, 917, 918] μ μ' := by
  unfold B_boil at h
  have hF : Fr [502, 503, 909, 910, 911, 912, 913, 914, 915, 916, 917, 918] μ μ := Fr.refl
  obtain ⟨_, _, h⟩ := bdS h
  rcases iteS h with h | h
  · cases h; exact hF
  · obtain ⟨_, _, h⟩ := bdS h
    rcases iteS h with h | h
    · cases h; exact hF
    · obtain ⟨⟨x3, μ4⟩, h1, h⟩ := bdS h
      replace hF := hF.trans ((B_shows_fr h1).mono (by decide))
      rcases iteS h with h | h
      · cases h; exact hF
      · obtain ⟨_, _, h⟩ := bdS h
        cases h; exact hF
set_option maxRecDepth 100000 in
theorem Taster_leastOff_l1_fr {v1 : Int32} {o1 : Int32} {μo : Mem} : ∀ {n : Nat} {v2 : Int32} {v3 : Int32} {μ : Mem}, Taster_leastOff_l1 v1 n v2 v3 μ = some (o1, μo) → Fr [917, 918, 1105] μ μo := by
  intro n
  induction n with
  | zero => intro v2 v3 μ h; exact noS h
  | succ n ih =>
    intro v2 v3 μ h
    replace h : Taster_leastOff_l1b v1 (Taster_leastOff_l1 v1 n) v2 v3 μ = some (o1, μo) := h
    unfold Taster_leastOff_l1b at h
    have hF : Fr [917, 918, 1105] μ μ := Fr.refl
    obtain ⟨_, _, h⟩ := bdS h
    rcases iteS h with h | h
    · obtain ⟨_, _, h⟩ := bdS h
      obtain ⟨_, _, h⟩ := bdS h
      obtain ⟨_, _, h⟩ := bdS h
      obtain ⟨μ5, h1, h⟩ := bdS h
      replace hF := fr_mWr (by decide) hF h1
      obtain ⟨x7, _, h⟩ := bdS h
      obtain ⟨_, _, h⟩ := bdS h
      exact hF.trans (ih h)
    · cases h; exact hF
set_option maxRecDepth 100000 in
theorem Taster_leastOff_l2_fr {v1 : Int32} {v2 : Int32} {o1 : Int32} {μo : Mem} : ∀ {n : Nat} {v3 : Int32} {v4 : Int32} {v5 : Int32} {μ : Mem}, Taster_leastOff_l2 v1 v2 n v3 v4 v5 μ = some (o1, μo) → Fr [917, 918, 1105] μ μo := by
  intro n
  induction n with
  | zero => intro v3 v4 v5 μ h; exact noS h
  | succ n ih =>
    intro v3 v4 v5 μ h
    replace h : Taster_leastOff_l2b v1 v2 (Taster_leastOff_l2 v1 v2 n) v3 v4 v5 μ = some (o1, μo) := h
    unfold Taster_leastOff_l2b at h
    have hF : Fr [917, 918, 1105] μ μ := Fr.refl
    obtain ⟨_, _, h⟩ := bdS h
    rcases iteS h with h | h
    · rcases iteS h with h | h
      · cases h; exact hF
      · obtain ⟨μ2, h1, h⟩ := bdS h
        replace hF := hF.trans ((Pot_show_fr h1).mono (by decide))
        obtain ⟨_, _, h⟩ := bdS h
        obtain ⟨⟨x4, x5⟩, _, h⟩ := bdS h
        obtain ⟨_, _, h⟩ := bdS h
        exact hF.trans (ih h)
    · cases h; exact hF
set_option maxRecDepth 100000 in
theorem Taster_leastOff_fr {a1 : Int32} {μ : Mem} {r : Int32} {μ' : Mem} (h : Taster_leastOff a1 μ = some (r, μ')) : Fr [917, 918, 1105] μ μ' := by
  unfold Taster_leastOff at h
  have hF : Fr [917, 918, 1105] μ μ := Fr.refl
  obtain ⟨⟨x1, μ2⟩, h1, h⟩ := bdS h
  replace hF := hF.trans ((Taster_leastOff_l1_fr h1).mono (by decide))
  obtain ⟨⟨x3, μ4⟩, h1, h⟩ := bdS h
  replace hF := hF.trans ((Taster_leastOff_l2_fr h1).mono (by decide))
  cases h; exact hF
set_option maxRecDepth 100000 in
theorem B_nearest_fr {a1 : Int32} {μ : Mem} {r : Int32} {μ' : Mem} (h : B_nearest a1 μ = some (r, μ')) : Fr [502, 503, 909, 910, 911, 912, 913, 914, 915, 916, 917, 918, 1105] μ μ' := by
  unfold B_nearest at h
  have hF : Fr [502, 503, 909, 910, 911, 912, 913, 914, 915, 916, 917, 918, 1105] μ μ := Fr.refl
  obtain ⟨⟨x1, μ2⟩, h1, h⟩ := bdS h
  replace hF := hF.trans ((B_laid_fr h1).mono (by decide))
  rcases iteS h with h | h
  · obtain ⟨⟨x3, μ4⟩, h1, h⟩ := bdS h
    replace hF := hF.trans ((Taster_leastOff_fr h1).mono (by decide))
    cases h; exact hF
  · cases h; exact hF
set_option maxRecDepth 100000 in
theorem B_lacking_fr {a1 : Int32} {a2 : Int32} {a3 : Int32} {a4 : Int32} {μ : Mem} {r : Int32} {μ' : Mem} (h : B_lacking a1 a2 a3 a4 μ = some (r, μ')) : Fr [502, 503, 909, 910, 911, 912, 913, 914, 915, 916, 917, 918] μ μ' := by
  unfold B_lacking at h
  have hF : Fr [502, 503, 909, 910, 911, 912, 913, 914, 915, 916, 917, 918] μ μ := Fr.refl
  obtain ⟨_, _, h⟩ := bdS h
  rcases iteS h with h | h
  · cases h; exact hF
  · obtain ⟨_, _, h⟩ := bdS h
    rcases iteS h with h | h
    · cases h; exact hF
    · obtain ⟨⟨x3, μ4⟩, h1, h⟩ := bdS h
      replace hF := hF.trans ((B_shows_fr h1).mono (by decide))
      rcases iteS h with h | h
      · cases h; exact hF
      · obtain ⟨_, _, h⟩ := bdS h
        cases h; exact hF
set_option maxRecDepth 100000 in
theorem B_enough_fr {a1 : Int32} {a2 : Int32} {a3 : Int32} {μ : Mem} {r : Int32} {μ' : Mem} (h : B_enough a1 a2 a3 μ = some (r, μ')) : Fr [502, 503, 909, 910, 911, 912, 913, 914, 915, 916, 917, 918] μ μ' := by
  unfold B_enough at h
  have hF : Fr [502, 503, 909, 910, 911, 912, 913, 914, 915, 916, 917, 918] μ μ := Fr.refl
  obtain ⟨_, _, h⟩ := bdS h
  rcases iteS h with h | h
  · cases h; exact hF
  · obtain ⟨⟨x2, μ3⟩, h1, h⟩ := bdS h
    replace hF := hF.trans ((B_shows_fr h1).mono (by decide))
    rcases iteS h with h | h
    · cases h; exact hF
    · obtain ⟨_, _, h⟩ := bdS h
      cases h; exact hF
set_option maxRecDepth 100000 in
theorem B_wasted_fr {a1 : Int32} {a2 : Int32} {a3 : Int32} {a4 : Int32} {μ : Mem} {r : Int32} {μ' : Mem} (h : B_wasted a1 a2 a3 a4 μ = some (r, μ')) : Fr [502, 503, 603, 604, 605, 606, 607, 608, 609, 610, 611, 612, 613, 614, 909, 910, 911, 912, 913, 914, 915, 916, 917, 918] μ μ' := by
  unfold B_wasted at h
  have hF : Fr [502, 503, 603, 604, 605, 606, 607, 608, 609, 610, 611, 612, 613, 614, 909, 910, 911, 912, 913, 914, 915, 916, 917, 918] μ μ := Fr.refl
  rcases iteS h with h | h
  · cases h; exact hF
  · obtain ⟨_, _, h⟩ := bdS h
    rcases iteS h with h | h
    · cases h; exact hF
    · obtain ⟨μ2, h1, h⟩ := bdS h
      replace hF := hF.trans ((Menus_layOut_fr h1).mono (by decide))
      obtain ⟨_, _, h⟩ := bdS h
      rcases iteS h with h | h
      · cases h; exact hF
      · cases h; exact hF
set_option maxRecDepth 100000 in
theorem B_lean_fr {a1 : Int32} {a2 : Int32} {a3 : Int32} {a4 : Int32} {μ : Mem} {r : Int32} {μ' : Mem} (h : B_lean a1 a2 a3 a4 μ = some (r, μ')) : Fr [502, 503, 603, 604, 605, 606, 607, 608, 609, 610, 611, 612, 613, 614, 909, 910, 911, 912, 913, 914, 915, 916, 917, 918] μ μ' := by
  unfold B_lean at h
  have hF : Fr [502, 503, 603, 604, 605, 606, 607, 608, 609, 610, 611, 612, 613, 614, 909, 910, 911, 912, 913, 914, 915, 916, 917, 918] μ μ := Fr.refl
  obtain ⟨_, _, h⟩ := bdS h
  rcases iteS h with h | h
  · cases h; exact hF
  · obtain ⟨_, _, h⟩ := bdS h
    rcases iteS h with h | h
    · cases h; exact hF
    · obtain ⟨μ3, h1, h⟩ := bdS h
      replace hF := hF.trans ((Menus_layOut_fr h1).mono (by decide))
      obtain ⟨_, _, h⟩ := bdS h
      rcases iteS h with h | h
      · obtain ⟨_, _, h⟩ := bdS h
        cases h; exact hF
      · cases h; exact hF
set_option maxRecDepth 100000 in
theorem Taster_lead_l1_fr {v1 : Int32} {v2 : Int32} {v3 : Int32} {o1 : Int32} {μo : Mem} : ∀ {n : Nat} {v4 : Int32} {v5 : Int32} {μ : Mem}, Taster_lead_l1 v1 v2 v3 n v4 v5 μ = some (o1, μo) → Fr [502, 503, 917, 918, 1106, 1107] μ μo := by
  intro n
  induction n with
  | zero => intro v4 v5 μ h; exact noS h
  | succ n ih =>
    intro v4 v5 μ h
    replace h : Taster_lead_l1b v1 v2 v3 (Taster_lead_l1 v1 v2 v3 n) v4 v5 μ = some (o1, μo) := h
    unfold Taster_lead_l1b at h
    have hF : Fr [502, 503, 917, 918, 1106, 1107] μ μ := Fr.refl
    rcases iteS h with h | h
    · obtain ⟨μ1, h1, h⟩ := bdS h
      replace hF := hF.trans ((Pot_show_fr h1).mono (by decide))
      obtain ⟨⟨x2, μ3⟩, h1, h⟩ := bdS h
      replace hF := hF.trans ((Laws_valueOf_fr h1).mono (by decide))
      obtain ⟨μ4, h1, h⟩ := bdS h
      replace hF := fr_mWr (by decide) hF h1
      obtain ⟨⟨x5, μ6⟩, h1, h⟩ := bdS h
      replace hF := hF.trans ((Laws_valueOf_fr h1).mono (by decide))
      obtain ⟨μ7, h1, h⟩ := bdS h
      replace hF := fr_mWr (by decide) hF h1
      obtain ⟨_, _, h⟩ := bdS h
      obtain ⟨_, _, h⟩ := bdS h
      exact hF.trans (ih h)
    · cases h; exact hF
set_option maxRecDepth 100000 in
theorem Taster_lead_fr {a1 : Int32} {a2 : Int32} {μ : Mem} {r : Int32} {μ' : Mem} (h : Taster_lead a1 a2 μ = some (r, μ')) : Fr [502, 503, 917, 918, 1106, 1107] μ μ' := by
  unfold Taster_lead at h
  have hF : Fr [502, 503, 917, 918, 1106, 1107] μ μ := Fr.refl
  obtain ⟨_, _, h⟩ := bdS h
  obtain ⟨_, _, h⟩ := bdS h
  obtain ⟨⟨x3, μ4⟩, h1, h⟩ := bdS h
  replace hF := hF.trans ((Taster_lead_l1_fr h1).mono (by decide))
  cases h; exact hF
set_option maxRecDepth 100000 in
theorem B_softer_fr {a1 : Int32} {a2 : Int32} {a3 : Int32} {μ : Mem} {r : Int32} {μ' : Mem} (h : B_softer a1 a2 a3 μ = some (r, μ')) : Fr [502, 503, 909, 910, 911, 912, 913, 914, 915, 916, 917, 918, 1106, 1107] μ μ' := by
  unfold B_softer at h
  have hF : Fr [502, 503, 909, 910, 911, 912, 913, 914, 915, 916, 917, 918, 1106, 1107] μ μ := Fr.refl
  obtain ⟨_, _, h⟩ := bdS h
  rcases iteS h with h | h
  · cases h; exact hF
  · obtain ⟨_, _, h⟩ := bdS h
    rcases iteS h with h | h
    · cases h; exact hF
    · obtain ⟨⟨x3, μ4⟩, h1, h⟩ := bdS h
      replace hF := hF.trans ((B_laid_fr h1).mono (by decide))
      rcases iteS h with h | h
      · cases h; exact hF
      · rcases iteS h with h | h
        · cases h; exact hF
        · obtain ⟨⟨x5, μ6⟩, h1, h⟩ := bdS h
          replace hF := hF.trans ((Taster_lead_fr h1).mono (by decide))
          cases h; exact hF
set_option maxRecDepth 100000 in
theorem B_swapped_fr {a1 : Int32} {a2 : Int32} {a3 : Int32} {μ : Mem} {r : Int32} {μ' : Mem} (h : B_swapped a1 a2 a3 μ = some (r, μ')) : Fr [502, 503, 909, 910, 911, 912, 913, 914, 915, 916, 917, 918] μ μ' := by
  unfold B_swapped at h
  have hF : Fr [502, 503, 909, 910, 911, 912, 913, 914, 915, 916, 917, 918] μ μ := Fr.refl
  rcases iteS h with h | h
  · cases h; exact hF
  · obtain ⟨_, _, h⟩ := bdS h
    rcases iteS h with h | h
    · cases h; exact hF
    · obtain ⟨_, _, h⟩ := bdS h
      obtain ⟨_, _, h⟩ := bdS h
      rcases iteS h with h | h
      · cases h; exact hF
      · rcases iteS h with h | h
        · cases h; exact hF
        · obtain ⟨⟨x4, μ5⟩, h1, h⟩ := bdS h
          replace hF := hF.trans ((B_laid_fr h1).mono (by decide))
          rcases iteS h with h | h
          · cases h; exact hF
          · obtain ⟨_, _, h⟩ := bdS h
            cases h; exact hF
set_option maxRecDepth 100000 in
theorem M_feed_l2_fr {v1 : Int32} {v2 : Int32} {v3 : Int32} {v4 : Int32} {v5 : Int32} {μo : Mem} : ∀ {n : Nat} {v7 : Int32} {μ : Mem}, M_feed_l2 v1 v2 v3 v4 v5 n v7 μ = some μo → Fr [1301, 1302] μ μo := by
  intro n
  induction n with
  | zero => intro v7 μ h; exact noS h
  | succ n ih =>
    intro v7 μ h
    replace h : M_feed_l2b v1 v2 v3 v4 v5 (M_feed_l2 v1 v2 v3 v4 v5 n) v7 μ = some μo := h
    unfold M_feed_l2b at h
    have hF : Fr [1301, 1302] μ μ := Fr.refl
    rcases iteS h with h | h
    · obtain ⟨_, _, h⟩ := bdS h
      obtain ⟨μ4, hj, h⟩ := bdS h
      replace hF : Fr [1301, 1302] μ μ4 := by
        clear h
        replace h := hj
        clear hj
        rcases iteS h with h | h
        · cases h; exact hF
        · obtain ⟨μ2, h1, h⟩ := bdS h
          replace hF := fr_mWr (by decide) hF h1
          obtain ⟨μ3, h1, h⟩ := bdS h
          replace hF := fr_mSI (by decide) hF h1
          cases h; exact hF
      obtain ⟨_, _, h⟩ := bdS h
      exact hF.trans (ih h)
    · cases h; exact hF
set_option maxRecDepth 100000 in
theorem M_feed_fr {a1 : Int32} {a2 : Int32} {a3 : Int32} {a4 : Int32} {a5 : Int32} {μ : Mem} {r : Int32} {μ' : Mem} (h : M_feed a1 a2 a3 a4 a5 μ = some (r, μ')) : Fr [1301, 1302] μ μ' := by
  unfold M_feed at h
  have hF : Fr [1301, 1302] μ μ := Fr.refl
  obtain ⟨_, _, h⟩ := bdS h
  rcases iteS h with h | h
  · cases h; exact hF
  · obtain ⟨μ2, h1, h⟩ := bdS h
    replace hF := hF.trans ((M_feed_l2_fr h1).mono (by decide))
    cases h; exact hF
set_option maxRecDepth 100000 in
theorem M_end_fr {a1 : Int32} {μ : Mem} {r : Int32} {μ' : Mem} (h : M_end a1 μ = some (r, μ')) : Fr [1302] μ μ' := by
  unfold M_end at h
  have hF : Fr [1302] μ μ := Fr.refl
  rcases iteS h with h | h
  · obtain ⟨_, _, h⟩ := bdS h
    cases h; exact hF
  · rcases iteS h with h | h
    · obtain ⟨_, _, h⟩ := bdS h
      cases h; exact hF
    · obtain ⟨μ1, h1, h⟩ := bdS h
      replace hF := fr_mSI (by decide) hF h1
      obtain ⟨_, _, h⟩ := bdS h
      cases h; exact hF
set_option maxRecDepth 100000 in
theorem M_look_l1_fr {μo : Mem} : ∀ {n : Nat} {μ : Mem}, M_look_l1 n μ = some μo → Fr [1303] μ μo := by
  intro n
  induction n with
  | zero => intro μ h; exact noS h
  | succ n ih =>
    intro μ h
    replace h : M_look_l1b (M_look_l1 n) μ = some μo := h
    unfold M_look_l1b at h
    have hF : Fr [1303] μ μ := Fr.refl
    obtain ⟨_, _, h⟩ := bdS h
    rcases iteS h with h | h
    · obtain ⟨μ2, h1, h⟩ := bdS h
      replace hF := fr_mSI (by decide) hF h1
      exact hF.trans (ih h)
    · cases h; exact hF
set_option maxRecDepth 100000 in
theorem M_look_fr {μ : Mem} {r : Int32} {μ' : Mem} (h : M_look μ = some (r, μ')) : Fr [1303] μ μ' := by
  unfold M_look at h
  have hF : Fr [1303] μ μ := Fr.refl
  obtain ⟨μ1, h1, h⟩ := bdS h
  replace hF := hF.trans ((M_look_l1_fr h1).mono (by decide))
  obtain ⟨_, _, h⟩ := bdS h
  cases h; exact hF
set_option maxRecDepth 100000 in
theorem M_bad_fr {μ : Mem} {μ' : Mem} (h : M_bad μ = some μ') : Fr [1304] μ μ' := by
  unfold M_bad at h
  have hF : Fr [1304] μ μ := Fr.refl
  rcases iteS h with h | h
  · obtain ⟨μ2, h1, h⟩ := bdS h
    replace hF := fr_mSI (by decide) hF h1
    cases h; exact hF
  · obtain ⟨μ1, h1, h⟩ := bdS h
    replace hF := fr_mSI (by decide) hF h1
    cases h; exact hF
set_option maxRecDepth 100000 in
theorem M_thing_fr {a1 : Int32} {a2 : Int32} {a3 : Int32} {a4 : Int32} {a5 : Int32} {a6 : Int32} {μ : Mem} {r : Int32} {μ' : Mem} (h : M_thing a1 a2 a3 a4 a5 a6 μ = some (r, μ')) : Fr [1306, 1307, 1308, 1309, 1310, 1314] μ μ' := by
  unfold M_thing at h
  have hF : Fr [1306, 1307, 1308, 1309, 1310, 1314] μ μ := Fr.refl
  obtain ⟨_, _, h⟩ := bdS h
  rcases iteS h with h | h
  · cases h; exact hF
  · obtain ⟨_, _, h⟩ := bdS h
    rcases iteS h with h | h
    · cases h; exact hF
    · obtain ⟨_, _, h⟩ := bdS h
      rcases iteS h with h | h
      · cases h; exact hF
      · obtain ⟨_, _, h⟩ := bdS h
        rcases iteS h with h | h
        · cases h; exact hF
        · obtain ⟨_, _, h⟩ := bdS h
          rcases iteS h with h | h
          · cases h; exact hF
          · rcases iteS h with h | h
            · cases h; exact hF
            · obtain ⟨μ6, h1, h⟩ := bdS h
              replace hF := fr_mWr (by decide) hF h1
              obtain ⟨μ7, h1, h⟩ := bdS h
              replace hF := fr_mWr (by decide) hF h1
              obtain ⟨μ8, h1, h⟩ := bdS h
              replace hF := fr_mWr (by decide) hF h1
              obtain ⟨μ9, h1, h⟩ := bdS h
              replace hF := fr_mWz (by decide) hF h1
              obtain ⟨_, _, h⟩ := bdS h
              obtain ⟨_, _, h⟩ := bdS h
              obtain ⟨μ12, h1, h⟩ := bdS h
              replace hF := fr_mWr (by decide) hF h1
              obtain ⟨μ13, h1, h⟩ := bdS h
              replace hF := fr_mSI (by decide) hF h1
              cases h; exact hF
set_option maxRecDepth 100000 in
theorem M_sized_fr {a1 : Int32} {a2 : Int32} {a3 : Int32} {μ : Mem} {r : Int32} {μ' : Mem} (h : M_sized a1 a2 a3 μ = some (r, μ')) : Fr [1311, 1312, 1313] μ μ' := by
  unfold M_sized at h
  have hF : Fr [1311, 1312, 1313] μ μ := Fr.refl
  obtain ⟨_, _, h⟩ := bdS h
  rcases iteS h with h | h
  · cases h; exact hF
  · obtain ⟨_, _, h⟩ := bdS h
    rcases iteS h with h | h
    · cases h; exact hF
    · obtain ⟨_, _, h⟩ := bdS h
      rcases iteS h with h | h
      · cases h; exact hF
      · obtain ⟨_, _, h⟩ := bdS h
        rcases iteS h with h | h
        · cases h; exact hF
        · obtain ⟨_, _, h⟩ := bdS h
          obtain ⟨k8, hkk8, h⟩ := kE h
          have Jk8 : Fr [1311, 1312, 1313] μ μ → k8 () = some (r, μ') → Fr [1311, 1312, 1313] μ μ' := by
            clear h hF
            intro hF h
            rw [hkk8] at h
            obtain ⟨_, _, h⟩ := bdS h
            obtain ⟨μ10, h1, h⟩ := bdS h
            replace hF := fr_mWr (by decide) hF h1
            obtain ⟨_, _, h⟩ := bdS h
            obtain ⟨μ12, h1, h⟩ := bdS h
            replace hF := fr_mWr (by decide) hF h1
            obtain ⟨_, _, h⟩ := bdS h
            obtain ⟨μ14, h1, h⟩ := bdS h
            replace hF := fr_mWr (by decide) hF h1
            obtain ⟨_, _, h⟩ := bdS h
            cases h; exact hF
          rcases iteS h with h | h
          · obtain ⟨_, _, h⟩ := bdS h
            obtain ⟨_, _, h⟩ := bdS h
            rcases iteS h with h | h
            · exact Jk8 hF h
            · cases h; exact hF
          · exact Jk8 hF h
set_option maxRecDepth 100000 in
theorem M_number_fr {a1 : Int32} {μ : Mem} {r : Int32} {μ' : Mem} (h : M_number a1 μ = some (r, μ')) : Fr [1303, 1304] μ μ' := by
  unfold M_number at h
  have hF : Fr [1303, 1304] μ μ := Fr.refl
  obtain ⟨⟨x1, μ2⟩, h1, h⟩ := bdS h
  replace hF := hF.trans ((M_look_fr h1).mono (by decide))
  obtain ⟨_, _, h⟩ := bdS h
  rcases iteS h with h | h
  · obtain ⟨μ19, h1, h⟩ := bdS h
    replace hF := hF.trans ((M_bad_fr h1).mono (by decide))
    cases h; exact hF
  · obtain ⟨_, _, h⟩ := bdS h
    obtain ⟨_, _, h⟩ := bdS h
    obtain ⟨μ6, h1, h⟩ := bdS h
    replace hF := fr_mSI (by decide) hF h1
    obtain ⟨_, _, h⟩ := bdS h
    obtain ⟨_, _, h⟩ := bdS h
    obtain ⟨⟨x12, μ13⟩, hj, h⟩ := bdS h
    replace hF : Fr [1303, 1304] μ μ13 := by
      clear h
      replace h := hj
      clear hj
      rcases iteS h with h | h
      · cases h; exact hF
      · obtain ⟨_, _, h⟩ := bdS h
        obtain ⟨_, _, h⟩ := bdS h
        obtain ⟨μ11, h1, h⟩ := bdS h
        replace hF := fr_mSI (by decide) hF h1
        cases h; exact hF
    obtain ⟨_, _, h⟩ := bdS h
    obtain ⟨_, _, h⟩ := bdS h
    rcases iteS h with h | h
    · rcases iteS h with h | h
      · obtain ⟨μ16, h1, h⟩ := bdS h
        replace hF := fr_mSI (by decide) hF h1
        obtain ⟨μ17, h1, h⟩ := bdS h
        replace hF := hF.trans ((M_bad_fr h1).mono (by decide))
        cases h; exact hF
      · cases h; exact hF
    · obtain ⟨μ18, h1, h⟩ := bdS h
      replace hF := hF.trans ((M_bad_fr h1).mono (by decide))
      cases h; exact hF
set_option maxRecDepth 100000 in
theorem M_item_fr {a1 : Int32} {μ : Mem} {μ' : Mem} (h : M_item a1 μ = some μ') : Fr [1303, 1304, 1315, 1316, 1317, 1318] μ μ' := by
  unfold M_item at h
  have hF : Fr [1303, 1304, 1315, 1316, 1317, 1318] μ μ := Fr.refl
  obtain ⟨⟨x1, μ2⟩, h1, h⟩ := bdS h
  replace hF := hF.trans ((M_look_fr h1).mono (by decide))
  obtain ⟨_, _, h⟩ := bdS h
  obtain ⟨_, _, h⟩ := bdS h
  rcases iteS h with h | h
  · obtain ⟨μ5, h1, h⟩ := bdS h
    replace hF := hF.trans ((M_bad_fr h1).mono (by decide))
    cases h; exact hF
  · obtain ⟨_, _, h⟩ := bdS h
    rcases iteS h with h | h
    · obtain ⟨_, _, h⟩ := bdS h
      rcases iteS h with h | h
      · obtain ⟨μ33, h1, h⟩ := bdS h
        replace hF := hF.trans ((M_bad_fr h1).mono (by decide))
        cases h; exact hF
      · obtain ⟨μ9, h1, h⟩ := bdS h
        replace hF := fr_mSI (by decide) hF h1
        obtain ⟨_, _, h⟩ := bdS h
        obtain ⟨_, _, h⟩ := bdS h
        obtain ⟨μ12, h1, h⟩ := bdS h
        replace hF := fr_mWr (by decide) hF h1
        obtain ⟨μ13, h1, h⟩ := bdS h
        replace hF := fr_mWr (by decide) hF h1
        obtain ⟨μ14, h1, h⟩ := bdS h
        replace hF := fr_mWr (by decide) hF h1
        obtain ⟨⟨x15, μ16⟩, h1, h⟩ := bdS h
        replace hF := hF.trans ((M_look_fr h1).mono (by decide))
        obtain ⟨_, _, h⟩ := bdS h
        obtain ⟨μ30, hj, h⟩ := bdS h
        replace hF : Fr [1303, 1304, 1315, 1316, 1317, 1318] μ μ30 := by
          clear h
          replace h := hj
          clear hj
          rcases iteS h with h | h
          · cases h; exact hF
          · obtain ⟨⟨x18, μ19⟩, h1, h⟩ := bdS h
            replace hF := hF.trans ((M_number_fr h1).mono (by decide))
            obtain ⟨μ20, h1, h⟩ := bdS h
            replace hF := fr_mWr (by decide) hF h1
            obtain ⟨_, _, h⟩ := bdS h
            obtain ⟨μ22, h1, h⟩ := bdS h
            replace hF := fr_mWr (by decide) hF h1
            rcases iteS h with h | h
            · obtain ⟨⟨x23, μ24⟩, h1, h⟩ := bdS h
              replace hF := hF.trans ((M_look_fr h1).mono (by decide))
              rcases iteS h with h | h
              · obtain ⟨μ25, h1, h⟩ := bdS h
                replace hF := fr_mSI (by decide) hF h1
                obtain ⟨_, _, h⟩ := bdS h
                obtain ⟨⟨x27, μ28⟩, h1, h⟩ := bdS h
                replace hF := hF.trans ((M_number_fr h1).mono (by decide))
                obtain ⟨μ29, h1, h⟩ := bdS h
                replace hF := fr_mWr (by decide) hF h1
                cases h; exact hF
              · cases h; exact hF
            · cases h; exact hF
        obtain ⟨_, _, h⟩ := bdS h
        obtain ⟨μ32, h1, h⟩ := bdS h
        replace hF := fr_mWr (by decide) hF h1
        cases h; exact hF
    · obtain ⟨μ7, h1, h⟩ := bdS h
      replace hF := hF.trans ((M_bad_fr h1).mono (by decide))
      cases h; exact hF
set_option maxRecDepth 100000 in
theorem M_acts_l2_fr {v1 : Int32} {v2 : Int32} {v3 : Int32} {v4 : Int32} {μo : Mem} : ∀ {n : Nat} {v5 : Int32} {μ : Mem}, M_acts_l2 v1 v2 v3 v4 n v5 μ = some μo → Fr [1303, 1304, 1319, 1320] μ μo := by
  intro n
  induction n with
  | zero => intro v5 μ h; exact noS h
  | succ n ih =>
    intro v5 μ h
    replace h : M_acts_l2b v1 v2 v3 v4 (M_acts_l2 v1 v2 v3 v4 n) v5 μ = some μo := h
    unfold M_acts_l2b at h
    have hF : Fr [1303, 1304, 1319, 1320] μ μ := Fr.refl
    rcases iteS h with h | h
    · obtain ⟨_, _, h⟩ := bdS h
      obtain ⟨μ2, h1, h⟩ := bdS h
      replace hF := fr_mWr (by decide) hF h1
      obtain ⟨_, _, h⟩ := bdS h
      obtain ⟨μ4, h1, h⟩ := bdS h
      replace hF := fr_mWr (by decide) hF h1
      obtain ⟨_, _, h⟩ := bdS h
      exact hF.trans (ih h)
    · cases h; exact hF
set_option maxRecDepth 100000 in
theorem M_acts_l3_fr {v1 : Int32} {v2 : Int32} {v3 : Int32} {v4 : Int32} {μo : Mem} : ∀ {n : Nat} {v5 : Int32} {μ : Mem}, M_acts_l3 v1 v2 v3 v4 n v5 μ = some μo → Fr [1303, 1304, 1319, 1320] μ μo := by
  intro n
  induction n with
  | zero => intro v5 μ h; exact noS h
  | succ n ih =>
    intro v5 μ h
    replace h : M_acts_l3b v1 v2 v3 v4 (M_acts_l3 v1 v2 v3 v4 n) v5 μ = some μo := h
    unfold M_acts_l3b at h
    have hF : Fr [1303, 1304, 1319, 1320] μ μ := Fr.refl
    rcases iteS h with h | h
    · obtain ⟨_, _, h⟩ := bdS h
      obtain ⟨μ2, h1, h⟩ := bdS h
      replace hF := fr_mWr (by decide) hF h1
      obtain ⟨_, _, h⟩ := bdS h
      obtain ⟨μ4, h1, h⟩ := bdS h
      replace hF := fr_mWr (by decide) hF h1
      obtain ⟨_, _, h⟩ := bdS h
      exact hF.trans (ih h)
    · cases h; exact hF
set_option maxRecDepth 100000 in
theorem M_acts_l1_fr {v1 : Int32} {μ' : Mem} : ∀ {n : Nat} {v2 : Int32} {μ : Mem}, M_acts_l1 v1 n v2 μ = some μ' → Fr [1303, 1304, 1319, 1320] μ μ' := by
  intro n
  induction n with
  | zero => intro v2 μ h; exact noS h
  | succ n ih =>
    intro v2 μ h
    replace h : M_acts_l1b v1 (M_acts_l1 v1 n) v2 μ = some μ' := h
    unfold M_acts_l1b at h
    have hF : Fr [1303, 1304, 1319, 1320] μ μ := Fr.refl
    rcases iteS h with h | h
    · obtain ⟨⟨x2, μ3⟩, h1, h⟩ := bdS h
      replace hF := hF.trans ((M_look_fr h1).mono (by decide))
      obtain ⟨_, _, h⟩ := bdS h
      rcases iteS h with h | h
      · rcases iteS h with h | h
        · obtain ⟨μ5, h1, h⟩ := bdS h
          replace hF := hF.trans ((M_bad_fr h1).mono (by decide))
          cases h; exact hF
        · cases h; exact hF
      · rcases iteS h with h | h
        · obtain ⟨μ18, h1, h⟩ := bdS h
          replace hF := hF.trans ((M_bad_fr h1).mono (by decide))
          cases h; exact hF
        · obtain ⟨_, _, h⟩ := bdS h
          obtain ⟨_, _, h⟩ := bdS h
          obtain ⟨μ8, h1, h⟩ := bdS h
          replace hF := fr_mSI (by decide) hF h1
          obtain ⟨⟨x9, μ10⟩, h1, h⟩ := bdS h
          replace hF := hF.trans ((M_look_fr h1).mono (by decide))
          obtain ⟨_, _, h⟩ := bdS h
          rcases iteS h with h | h
          · obtain ⟨μ12, h1, h⟩ := bdS h
            replace hF := hF.trans ((M_acts_l2_fr h1).mono (by decide))
            exact hF.trans (ih h)
          · obtain ⟨_, _, h⟩ := bdS h
            obtain ⟨_, _, h⟩ := bdS h
            rcases iteS h with h | h
            · obtain ⟨μ17, h1, h⟩ := bdS h
              replace hF := hF.trans ((M_bad_fr h1).mono (by decide))
              cases h; exact hF
            · obtain ⟨μ15, h1, h⟩ := bdS h
              replace hF := fr_mSI (by decide) hF h1
              obtain ⟨μ16, h1, h⟩ := bdS h
              replace hF := hF.trans ((M_acts_l3_fr h1).mono (by decide))
              exact hF.trans (ih h)
    · rcases iteS h with h | h
      · obtain ⟨μ1, h1, h⟩ := bdS h
        replace hF := hF.trans ((M_bad_fr h1).mono (by decide))
        cases h; exact hF
      · cases h; exact hF
set_option maxRecDepth 100000 in
theorem M_acts_fr {a1 : Int32} {μ : Mem} {μ' : Mem} (h : M_acts a1 μ = some μ') : Fr [1303, 1304, 1319, 1320] μ μ' := by
  unfold M_acts at h
  have hF : Fr [1303, 1304, 1319, 1320] μ μ := Fr.refl
  exact hF.trans ((M_acts_l1_fr h).mono (by decide))
set_option maxRecDepth 100000 in
theorem M_readPage_l1_fr {v1 : Int32} {μo : Mem} : ∀ {n : Nat} {μ : Mem}, M_readPage_l1 v1 n μ = some μo → Fr [1303, 1304, 1315, 1316, 1317, 1318, 1319, 1320] μ μo := by
  intro n
  induction n with
  | zero => intro μ h; exact noS h
  | succ n ih =>
    intro μ h
    replace h : M_readPage_l1b v1 (M_readPage_l1 v1 n) μ = some μo := h
    unfold M_readPage_l1b at h
    have hF : Fr [1303, 1304, 1315, 1316, 1317, 1318, 1319, 1320] μ μ := Fr.refl
    rcases iteS h with h | h
    · obtain ⟨⟨x1, μ2⟩, h1, h⟩ := bdS h
      replace hF := hF.trans ((M_look_fr h1).mono (by decide))
      rcases iteS h with h | h
      · obtain ⟨μ3, h1, h⟩ := bdS h
        replace hF := fr_mSI (by decide) hF h1
        obtain ⟨μ4, h1, h⟩ := bdS h
        replace hF := hF.trans ((M_item_fr h1).mono (by decide))
        exact hF.trans (ih h)
      · cases h; exact hF
    · cases h; exact hF
set_option maxRecDepth 100000 in
theorem M_readPage_fr {a1 : Int32} {μ : Mem} {r : Int32} {μ' : Mem} (h : M_readPage a1 μ = some (r, μ')) : Fr [1303, 1304, 1315, 1316, 1317, 1318, 1319, 1320] μ μ' := by
  unfold M_readPage at h
  have hF : Fr [1303, 1304, 1315, 1316, 1317, 1318, 1319, 1320] μ μ := Fr.refl
  obtain ⟨μ1, h1, h⟩ := bdS h
  replace hF := fr_mSI (by decide) hF h1
  obtain ⟨μ2, h1, h⟩ := bdS h
  replace hF := fr_mSI (by decide) hF h1
  obtain ⟨μ3, h1, h⟩ := bdS h
  replace hF := fr_mWr (by decide) hF h1
  obtain ⟨μ4, h1, h⟩ := bdS h
  replace hF := fr_mWr (by decide) hF h1
  obtain ⟨μ5, h1, h⟩ := bdS h
  replace hF := hF.trans ((M_item_fr h1).mono (by decide))
  obtain ⟨μ6, h1, h⟩ := bdS h
  replace hF := hF.trans ((M_readPage_l1_fr h1).mono (by decide))
  obtain ⟨μ11, hj, h⟩ := bdS h
  replace hF : Fr [1303, 1304, 1315, 1316, 1317, 1318, 1319, 1320] μ μ11 := by
    clear h
    replace h := hj
    clear hj
    rcases iteS h with h | h
    · obtain ⟨⟨x7, μ8⟩, h1, h⟩ := bdS h
      replace hF := hF.trans ((M_look_fr h1).mono (by decide))
      rcases iteS h with h | h
      · obtain ⟨μ9, h1, h⟩ := bdS h
        replace hF := fr_mSI (by decide) hF h1
        obtain ⟨μ10, h1, h⟩ := bdS h
        replace hF := hF.trans ((M_acts_fr h1).mono (by decide))
        cases h; exact hF
      · cases h; exact hF
    · cases h; exact hF
  rcases iteS h with h | h
  · obtain ⟨⟨x12, μ13⟩, h1, h⟩ := bdS h
    replace hF := hF.trans ((M_look_fr h1).mono (by decide))
    rcases iteS h with h | h
    · cases h; exact hF
    · obtain ⟨μ14, h1, h⟩ := bdS h
      replace hF := hF.trans ((M_bad_fr h1).mono (by decide))
      cases h; exact hF
  · cases h; exact hF
set_option maxRecDepth 100000 in
theorem M_put_fr {a1 : Int32} {a2 : Int32} {μ : Mem} {μ' : Mem} (h : M_put a1 a2 μ = some μ') : Fr [1323, 1324, 1325] μ μ' := by
  unfold M_put at h
  have hF : Fr [1323, 1324, 1325] μ μ := Fr.refl
  obtain ⟨_, _, h⟩ := bdS h
  rcases iteS h with h | h
  · obtain ⟨_, _, h⟩ := bdS h
    obtain ⟨μ3, h1, h⟩ := bdS h
    replace hF := fr_mWr (by decide) hF h1
    obtain ⟨_, _, h⟩ := bdS h
    obtain ⟨μ5, h1, h⟩ := bdS h
    replace hF := fr_mWr (by decide) hF h1
    obtain ⟨_, _, h⟩ := bdS h
    obtain ⟨μ7, h1, h⟩ := bdS h
    replace hF := fr_mWr (by decide) hF h1
    cases h; exact hF
  · cases h; exact hF
set_option maxRecDepth 100000 in
theorem M_opens_fr {μ : Mem} {μ' : Mem} (h : M_opens μ = some μ') : Fr [1303, 1304, 1305] μ μ' := by
  unfold M_opens at h
  have hF : Fr [1303, 1304, 1305] μ μ := Fr.refl
  obtain ⟨μ2, hj, h⟩ := bdS h
  replace hF : Fr [1303, 1304, 1305] μ μ2 := by
    clear h
    replace h := hj
    clear hj
    rcases iteS h with h | h
    · obtain ⟨μ1, h1, h⟩ := bdS h
      replace hF := hF.trans ((M_bad_fr h1).mono (by decide))
      cases h; exact hF
    · cases h; exact hF
  obtain ⟨μ3, h1, h⟩ := bdS h
  replace hF := fr_mSI (by decide) hF h1
  obtain ⟨μ4, h1, h⟩ := bdS h
  replace hF := fr_mSI (by decide) hF h1
  cases h; exact hF
set_option maxRecDepth 100000 in
theorem M_closes_fr {a1 : Int32} {μ : Mem} {μ' : Mem} (h : M_closes a1 μ = some μ') : Fr [1303, 1304, 1305] μ μ' := by
  unfold M_closes at h
  have hF : Fr [1303, 1304, 1305] μ μ := Fr.refl
  obtain ⟨μ4, hj, h⟩ := bdS h
  replace hF : Fr [1303, 1304, 1305] μ μ4 := by
    clear h
    replace h := hj
    clear hj
    rcases iteS h with h | h
    · obtain ⟨⟨x1, μ2⟩, h1, h⟩ := bdS h
      replace hF := hF.trans ((M_look_fr h1).mono (by decide))
      rcases iteS h with h | h
      · cases h; exact hF
      · obtain ⟨μ3, h1, h⟩ := bdS h
        replace hF := hF.trans ((M_bad_fr h1).mono (by decide))
        cases h; exact hF
    · cases h; exact hF
  obtain ⟨μ5, h1, h⟩ := bdS h
  replace hF := fr_mSI (by decide) hF h1
  obtain ⟨μ6, h1, h⟩ := bdS h
  replace hF := fr_mSI (by decide) hF h1
  cases h; exact hF
set_option maxRecDepth 100000 in
theorem M_atom_l1_fr {r_M_sum : Mem → Option Mem} (fh_M_sum : ∀ {μ : Mem} {μ' : Mem}, r_M_sum μ = some μ' → Fr [1303, 1304, 1305, 1323, 1324, 1325] μ μ') {o1 : Int32} {μo : Mem} : ∀ {n : Nat} {v2 : Int32} {v3 : Int32} {μ : Mem}, M_atom_l1 r_M_sum n v2 v3 μ = some (o1, μo) → Fr [1303, 1304, 1305, 1323, 1324, 1325] μ μo := by
  intro n
  induction n with
  | zero => intro v2 v3 μ h; exact noS h
  | succ n ih =>
    intro v2 v3 μ h
    replace h : M_atom_l1b r_M_sum (M_atom_l1 r_M_sum n) v2 v3 μ = some (o1, μo) := h
    unfold M_atom_l1b at h
    have hF : Fr [1303, 1304, 1305, 1323, 1324, 1325] μ μ := Fr.refl
    rcases iteS h with h | h
    · obtain ⟨_, _, h⟩ := bdS h
      obtain ⟨_, _, h⟩ := bdS h
      rcases iteS h with h | h
      · cases h; exact hF
      · obtain ⟨_, _, h⟩ := bdS h
        obtain ⟨_, _, h⟩ := bdS h
        obtain ⟨μ5, h1, h⟩ := bdS h
        replace hF := fr_mSI (by decide) hF h1
        obtain ⟨_, _, h⟩ := bdS h
        exact hF.trans (ih h)
    · cases h; exact hF
set_option maxRecDepth 100000 in
theorem M_atom_B_fr {r_M_sum : Mem → Option Mem} (fh_M_sum : ∀ {μ : Mem} {μ' : Mem}, r_M_sum μ = some μ' → Fr [1303, 1304, 1305, 1323, 1324, 1325] μ μ') {μ : Mem} {μ' : Mem} (h : M_atom_B r_M_sum μ = some μ') : Fr [1303, 1304, 1305, 1323, 1324, 1325] μ μ' := by
  unfold M_atom_B at h
  have hF : Fr [1303, 1304, 1305, 1323, 1324, 1325] μ μ := Fr.refl
  obtain ⟨⟨x1, μ2⟩, h1, h⟩ := bdS h
  replace hF := hF.trans ((M_look_fr h1).mono (by decide))
  obtain ⟨_, _, h⟩ := bdS h
  rcases iteS h with h | h
  · obtain ⟨_, _, h⟩ := bdS h
    rcases iteS h with h | h
    · rcases iteS h with h | h
      · obtain ⟨μ6, h1, h⟩ := bdS h
        replace hF := hF.trans ((M_opens_fr h1).mono (by decide))
        rcases iteS h with h | h
        · obtain ⟨μ7, h1, h⟩ := bdS h
          replace hF := hF.trans ((fh_M_sum h1).mono (by decide))
          obtain ⟨μ8, h1, h⟩ := bdS h
          replace hF := hF.trans ((M_closes_fr h1).mono (by decide))
          cases h; exact hF
        · cases h; exact hF
      · obtain ⟨μ5, h1, h⟩ := bdS h
        replace hF := hF.trans ((M_bad_fr h1).mono (by decide))
        cases h; exact hF
    · obtain ⟨μ9, h1, h⟩ := bdS h
      replace hF := fr_mSI (by decide) hF h1
      obtain ⟨_, _, h⟩ := bdS h
      obtain ⟨μ11, h1, h⟩ := bdS h
      replace hF := hF.trans ((M_put_fr h1).mono (by decide))
      cases h; exact hF
  · obtain ⟨⟨x12, μ13⟩, h1, h⟩ := bdS h
    replace hF := hF.trans ((M_atom_l1_fr fh_M_sum h1).mono (by decide))
    obtain ⟨_, _, h⟩ := bdS h
    obtain ⟨_, _, h⟩ := bdS h
    obtain ⟨μ17, hj, h⟩ := bdS h
    replace hF : Fr [1303, 1304, 1305, 1323, 1324, 1325] μ μ17 := by
      clear h
      replace h := hj
      clear hj
      rcases iteS h with h | h
      · cases h; exact hF
      · obtain ⟨μ16, h1, h⟩ := bdS h
        replace hF := hF.trans ((M_bad_fr h1).mono (by decide))
        cases h; exact hF
    obtain ⟨μ18, h1, h⟩ := bdS h
    replace hF := hF.trans ((M_put_fr h1).mono (by decide))
    cases h; exact hF
set_option maxRecDepth 100000 in
theorem M_term_l1_fr {r_M_atom : Mem → Option Mem} (fh_M_atom : ∀ {μ : Mem} {μ' : Mem}, r_M_atom μ = some μ' → Fr [1303, 1304, 1305, 1323, 1324, 1325] μ μ') {μo : Mem} : ∀ {n : Nat} {v1 : Int32} {μ : Mem}, M_term_l1 r_M_atom n v1 μ = some μo → Fr [1303, 1304, 1305, 1323, 1324, 1325] μ μo := by
  intro n
  induction n with
  | zero => intro v1 μ h; exact noS h
  | succ n ih =>
    intro v1 μ h
    replace h : M_term_l1b r_M_atom (M_term_l1 r_M_atom n) v1 μ = some μo := h
    unfold M_term_l1b at h
    have hF : Fr [1303, 1304, 1305, 1323, 1324, 1325] μ μ := Fr.refl
    obtain ⟨k1, hkk1, h⟩ := kE h
    have Jk1 : Fr [1303, 1304, 1305, 1323, 1324, 1325] μ μ → k1 () = some μo → Fr [1303, 1304, 1305, 1323, 1324, 1325] μ μo := by
      clear h hF
      intro hF h
      rw [hkk1] at h
      obtain ⟨μ2, h1, h⟩ := bdS h
      replace hF := fr_mSI (by decide) hF h1
      obtain ⟨μ3, h1, h⟩ := bdS h
      replace hF := hF.trans ((fh_M_atom h1).mono (by decide))
      obtain ⟨x4, _, h⟩ := bdS h
      obtain ⟨μ5, h1, h⟩ := bdS h
      replace hF := hF.trans ((M_put_fr h1).mono (by decide))
      obtain ⟨⟨x8, μ9⟩, hj, h⟩ := bdS h
      replace hF : Fr [1303, 1304, 1305, 1323, 1324, 1325] μ μ9 := by
        clear h
        replace h := hj
        clear hj
        rcases iteS h with h | h
        · obtain ⟨⟨x6, μ7⟩, h1, h⟩ := bdS h
          replace hF := hF.trans ((M_look_fr h1).mono (by decide))
          cases h; exact hF
        · cases h; exact hF
      exact hF.trans (ih h)
    rcases iteS h with h | h
    · exact Jk1 hF h
    · rcases iteS h with h | h
      · exact Jk1 hF h
      · cases h; exact hF
set_option maxRecDepth 100000 in
theorem M_term_l2_fr {r_M_atom : Mem → Option Mem} (fh_M_atom : ∀ {μ : Mem} {μ' : Mem}, r_M_atom μ = some μ' → Fr [1303, 1304, 1305, 1323, 1324, 1325] μ μ') {μo : Mem} : ∀ {n : Nat} {v1 : Int32} {μ : Mem}, M_term_l2 r_M_atom n v1 μ = some μo → Fr [1303, 1304, 1305, 1323, 1324, 1325] μ μo := by
  intro n
  induction n with
  | zero => intro v1 μ h; exact noS h
  | succ n ih =>
    intro v1 μ h
    replace h : M_term_l2b r_M_atom (M_term_l2 r_M_atom n) v1 μ = some μo := h
    unfold M_term_l2b at h
    have hF : Fr [1303, 1304, 1305, 1323, 1324, 1325] μ μ := Fr.refl
    obtain ⟨k1, hkk1, h⟩ := kE h
    have Jk1 : Fr [1303, 1304, 1305, 1323, 1324, 1325] μ μ → k1 () = some μo → Fr [1303, 1304, 1305, 1323, 1324, 1325] μ μo := by
      clear h hF
      intro hF h
      rw [hkk1] at h
      obtain ⟨μ2, h1, h⟩ := bdS h
      replace hF := fr_mSI (by decide) hF h1
      obtain ⟨μ3, h1, h⟩ := bdS h
      replace hF := hF.trans ((fh_M_atom h1).mono (by decide))
      obtain ⟨x4, _, h⟩ := bdS h
      obtain ⟨μ5, h1, h⟩ := bdS h
      replace hF := hF.trans ((M_put_fr h1).mono (by decide))
      obtain ⟨⟨x8, μ9⟩, hj, h⟩ := bdS h
      replace hF : Fr [1303, 1304, 1305, 1323, 1324, 1325] μ μ9 := by
        clear h
        replace h := hj
        clear hj
        rcases iteS h with h | h
        · obtain ⟨⟨x6, μ7⟩, h1, h⟩ := bdS h
          replace hF := hF.trans ((M_look_fr h1).mono (by decide))
          cases h; exact hF
        · cases h; exact hF
      exact hF.trans (ih h)
    rcases iteS h with h | h
    · exact Jk1 hF h
    · rcases iteS h with h | h
      · exact Jk1 hF h
      · cases h; exact hF
set_option maxRecDepth 100000 in
theorem M_term_B_fr {r_M_atom : Mem → Option Mem} (fh_M_atom : ∀ {μ : Mem} {μ' : Mem}, r_M_atom μ = some μ' → Fr [1303, 1304, 1305, 1323, 1324, 1325] μ μ') {μ : Mem} {μ' : Mem} (h : M_term_B r_M_atom μ = some μ') : Fr [1303, 1304, 1305, 1323, 1324, 1325] μ μ' := by
  unfold M_term_B at h
  have hF : Fr [1303, 1304, 1305, 1323, 1324, 1325] μ μ := Fr.refl
  obtain ⟨μ1, h1, h⟩ := bdS h
  replace hF := hF.trans ((fh_M_atom h1).mono (by decide))
  rcases iteS h with h | h
  · obtain ⟨⟨x3, μ4⟩, h1, h⟩ := bdS h
    replace hF := hF.trans ((M_look_fr h1).mono (by decide))
    obtain ⟨μ5, h1, h⟩ := bdS h
    replace hF := hF.trans ((M_term_l2_fr fh_M_atom h1).mono (by decide))
    cases h; exact hF
  · obtain ⟨μ2, h1, h⟩ := bdS h
    replace hF := hF.trans ((M_term_l1_fr fh_M_atom h1).mono (by decide))
    cases h; exact hF
set_option maxRecDepth 100000 in
theorem M_sum_l1_fr {r_M_term : Mem → Option Mem} (fh_M_term : ∀ {μ : Mem} {μ' : Mem}, r_M_term μ = some μ' → Fr [1303, 1304, 1305, 1323, 1324, 1325] μ μ') {μo : Mem} : ∀ {n : Nat} {v1 : Int32} {μ : Mem}, M_sum_l1 r_M_term n v1 μ = some μo → Fr [1303, 1304, 1305, 1323, 1324, 1325] μ μo := by
  intro n
  induction n with
  | zero => intro v1 μ h; exact noS h
  | succ n ih =>
    intro v1 μ h
    replace h : M_sum_l1b r_M_term (M_sum_l1 r_M_term n) v1 μ = some μo := h
    unfold M_sum_l1b at h
    have hF : Fr [1303, 1304, 1305, 1323, 1324, 1325] μ μ := Fr.refl
    obtain ⟨k1, hkk1, h⟩ := kE h
    have Jk1 : Fr [1303, 1304, 1305, 1323, 1324, 1325] μ μ → k1 () = some μo → Fr [1303, 1304, 1305, 1323, 1324, 1325] μ μo := by
      clear h hF
      intro hF h
      rw [hkk1] at h
      obtain ⟨μ2, h1, h⟩ := bdS h
      replace hF := fr_mSI (by decide) hF h1
      obtain ⟨μ3, h1, h⟩ := bdS h
      replace hF := hF.trans ((fh_M_term h1).mono (by decide))
      obtain ⟨x4, _, h⟩ := bdS h
      obtain ⟨μ5, h1, h⟩ := bdS h
      replace hF := hF.trans ((M_put_fr h1).mono (by decide))
      obtain ⟨⟨x8, μ9⟩, hj, h⟩ := bdS h
      replace hF : Fr [1303, 1304, 1305, 1323, 1324, 1325] μ μ9 := by
        clear h
        replace h := hj
        clear hj
        rcases iteS h with h | h
        · obtain ⟨⟨x6, μ7⟩, h1, h⟩ := bdS h
          replace hF := hF.trans ((M_look_fr h1).mono (by decide))
          cases h; exact hF
        · cases h; exact hF
      exact hF.trans (ih h)
    rcases iteS h with h | h
    · exact Jk1 hF h
    · rcases iteS h with h | h
      · exact Jk1 hF h
      · cases h; exact hF
set_option maxRecDepth 100000 in
theorem M_sum_l2_fr {r_M_term : Mem → Option Mem} (fh_M_term : ∀ {μ : Mem} {μ' : Mem}, r_M_term μ = some μ' → Fr [1303, 1304, 1305, 1323, 1324, 1325] μ μ') {μo : Mem} : ∀ {n : Nat} {v1 : Int32} {μ : Mem}, M_sum_l2 r_M_term n v1 μ = some μo → Fr [1303, 1304, 1305, 1323, 1324, 1325] μ μo := by
  intro n
  induction n with
  | zero => intro v1 μ h; exact noS h
  | succ n ih =>
    intro v1 μ h
    replace h : M_sum_l2b r_M_term (M_sum_l2 r_M_term n) v1 μ = some μo := h
    unfold M_sum_l2b at h
    have hF : Fr [1303, 1304, 1305, 1323, 1324, 1325] μ μ := Fr.refl
    obtain ⟨k1, hkk1, h⟩ := kE h
    have Jk1 : Fr [1303, 1304, 1305, 1323, 1324, 1325] μ μ → k1 () = some μo → Fr [1303, 1304, 1305, 1323, 1324, 1325] μ μo := by
      clear h hF
      intro hF h
      rw [hkk1] at h
      obtain ⟨μ2, h1, h⟩ := bdS h
      replace hF := fr_mSI (by decide) hF h1
      obtain ⟨μ3, h1, h⟩ := bdS h
      replace hF := hF.trans ((fh_M_term h1).mono (by decide))
      obtain ⟨x4, _, h⟩ := bdS h
      obtain ⟨μ5, h1, h⟩ := bdS h
      replace hF := hF.trans ((M_put_fr h1).mono (by decide))
      obtain ⟨⟨x8, μ9⟩, hj, h⟩ := bdS h
      replace hF : Fr [1303, 1304, 1305, 1323, 1324, 1325] μ μ9 := by
        clear h
        replace h := hj
        clear hj
        rcases iteS h with h | h
        · obtain ⟨⟨x6, μ7⟩, h1, h⟩ := bdS h
          replace hF := hF.trans ((M_look_fr h1).mono (by decide))
          cases h; exact hF
        · cases h; exact hF
      exact hF.trans (ih h)
    rcases iteS h with h | h
    · exact Jk1 hF h
    · rcases iteS h with h | h
      · exact Jk1 hF h
      · cases h; exact hF
set_option maxRecDepth 100000 in
theorem M_sum_B_fr {r_M_term : Mem → Option Mem} (fh_M_term : ∀ {μ : Mem} {μ' : Mem}, r_M_term μ = some μ' → Fr [1303, 1304, 1305, 1323, 1324, 1325] μ μ') {μ : Mem} {μ' : Mem} (h : M_sum_B r_M_term μ = some μ') : Fr [1303, 1304, 1305, 1323, 1324, 1325] μ μ' := by
  unfold M_sum_B at h
  have hF : Fr [1303, 1304, 1305, 1323, 1324, 1325] μ μ := Fr.refl
  obtain ⟨μ1, h1, h⟩ := bdS h
  replace hF := hF.trans ((fh_M_term h1).mono (by decide))
  rcases iteS h with h | h
  · obtain ⟨⟨x3, μ4⟩, h1, h⟩ := bdS h
    replace hF := hF.trans ((M_look_fr h1).mono (by decide))
    obtain ⟨μ5, h1, h⟩ := bdS h
    replace hF := hF.trans ((M_sum_l2_fr fh_M_term h1).mono (by decide))
    cases h; exact hF
  · obtain ⟨μ2, h1, h⟩ := bdS h
    replace hF := hF.trans ((M_sum_l1_fr fh_M_term h1).mono (by decide))
    cases h; exact hF
theorem G_M_atom_fr : ∀ n : Nat, (∀ {μ : Mem} {μ' : Mem}, M_atom n μ = some μ' → Fr [1303, 1304, 1305, 1323, 1324, 1325] μ μ') ∧ (∀ {μ : Mem} {μ' : Mem}, M_term n μ = some μ' → Fr [1303, 1304, 1305, 1323, 1324, 1325] μ μ') ∧ (∀ {μ : Mem} {μ' : Mem}, M_sum n μ = some μ' → Fr [1303, 1304, 1305, 1323, 1324, 1325] μ μ') := by
  intro n
  induction n with
  | zero => exact ⟨fun h => noS h, fun h => noS h, fun h => noS h⟩
  | succ n ih =>
    obtain ⟨fh_M_atom, fh_M_term, fh_M_sum⟩ := ih
    refine ⟨?_, ?_, ?_⟩
    · intro μ μ' h
      rw [M_atom_s] at h
      exact M_atom_B_fr fh_M_sum h
    · intro μ μ' h
      rw [M_term_s] at h
      exact M_term_B_fr fh_M_atom h
    · intro μ μ' h
      rw [M_sum_s] at h
      exact M_sum_B_fr fh_M_term h

theorem M_atom_fr {n : Nat} {μ : Mem} {μ' : Mem} (h : M_atom n μ = some μ') : Fr [1303, 1304, 1305, 1323, 1324, 1325] μ μ' := (G_M_atom_fr n).1 h
theorem M_term_fr {n : Nat} {μ : Mem} {μ' : Mem} (h : M_term n μ = some μ') : Fr [1303, 1304, 1305, 1323, 1324, 1325] μ μ' := (G_M_atom_fr n).2.1 h
theorem M_sum_fr {n : Nat} {μ : Mem} {μ' : Mem} (h : M_sum n μ = some μ') : Fr [1303, 1304, 1305, 1323, 1324, 1325] μ μ' := (G_M_atom_fr n).2.2 h
set_option maxRecDepth 100000 in
theorem M_compare_fr {μ : Mem} {μ' : Mem} (h : M_compare μ = some μ') : Fr [1303, 1304, 1305, 1323, 1324, 1325] μ μ' := by
  unfold M_compare at h
  have hF : Fr [1303, 1304, 1305, 1323, 1324, 1325] μ μ := Fr.refl
  obtain ⟨⟨x3, μ4⟩, hj, h⟩ := bdS h
  replace hF : Fr [1303, 1304, 1305, 1323, 1324, 1325] μ μ4 := by
    clear h
    replace h := hj
    clear hj
    rcases iteS h with h | h
    · obtain ⟨⟨x1, μ2⟩, h1, h⟩ := bdS h
      replace hF := hF.trans ((M_look_fr h1).mono (by decide))
      cases h; exact hF
    · cases h; exact hF
  obtain ⟨_, _, h⟩ := bdS h
  rcases iteS h with h | h
  · obtain ⟨μ11, h1, h⟩ := bdS h
    replace hF := hF.trans ((M_bad_fr h1).mono (by decide))
    cases h; exact hF
  · obtain ⟨μ6, h1, h⟩ := bdS h
    replace hF := fr_mSI (by decide) hF h1
    obtain ⟨μ7, h1, h⟩ := bdS h
    replace hF := hF.trans ((M_sum_fr h1).mono (by decide))
    rcases iteS h with h | h
    · obtain ⟨μ10, h1, h⟩ := bdS h
      replace hF := hF.trans ((M_put_fr h1).mono (by decide))
      cases h; exact hF
    · rcases iteS h with h | h
      · obtain ⟨μ9, h1, h⟩ := bdS h
        replace hF := hF.trans ((M_put_fr h1).mono (by decide))
        cases h; exact hF
      · obtain ⟨μ8, h1, h⟩ := bdS h
        replace hF := hF.trans ((M_put_fr h1).mono (by decide))
        cases h; exact hF
set_option maxRecDepth 100000 in
theorem M_unit_B_fr {r_M_unit : Mem → Option Mem} {r_M_condition : Mem → Option Mem} (fh_M_unit : ∀ {μ : Mem} {μ' : Mem}, r_M_unit μ = some μ' → Fr [1303, 1304, 1305, 1323, 1324, 1325] μ μ') (fh_M_condition : ∀ {μ : Mem} {μ' : Mem}, r_M_condition μ = some μ' → Fr [1303, 1304, 1305, 1323, 1324, 1325] μ μ') {μ : Mem} {μ' : Mem} (h : M_unit_B r_M_unit r_M_condition μ = some μ') : Fr [1303, 1304, 1305, 1323, 1324, 1325] μ μ' := by
  unfold M_unit_B at h
  have hF : Fr [1303, 1304, 1305, 1323, 1324, 1325] μ μ := Fr.refl
  obtain ⟨⟨x1, μ2⟩, h1, h⟩ := bdS h
  replace hF := hF.trans ((M_look_fr h1).mono (by decide))
  rcases iteS h with h | h
  · obtain ⟨μ8, h1, h⟩ := bdS h
    replace hF := hF.trans ((M_opens_fr h1).mono (by decide))
    rcases iteS h with h | h
    · obtain ⟨μ9, h1, h⟩ := bdS h
      replace hF := hF.trans ((fh_M_unit h1).mono (by decide))
      obtain ⟨μ10, h1, h⟩ := bdS h
      replace hF := hF.trans ((M_put_fr h1).mono (by decide))
      obtain ⟨μ11, h1, h⟩ := bdS h
      replace hF := fr_mSI (by decide) hF h1
      cases h; exact hF
    · cases h; exact hF
  · rcases iteS h with h | h
    · obtain ⟨μ5, h1, h⟩ := bdS h
      replace hF := hF.trans ((M_opens_fr h1).mono (by decide))
      rcases iteS h with h | h
      · obtain ⟨μ6, h1, h⟩ := bdS h
        replace hF := hF.trans ((fh_M_condition h1).mono (by decide))
        obtain ⟨μ7, h1, h⟩ := bdS h
        replace hF := hF.trans ((M_closes_fr h1).mono (by decide))
        cases h; exact hF
      · cases h; exact hF
    · obtain ⟨μ3, h1, h⟩ := bdS h
      replace hF := hF.trans ((M_sum_fr h1).mono (by decide))
      rcases iteS h with h | h
      · obtain ⟨μ4, h1, h⟩ := bdS h
        replace hF := hF.trans ((M_compare_fr h1).mono (by decide))
        cases h; exact hF
      · cases h; exact hF
set_option maxRecDepth 100000 in
theorem M_truth_l1_fr {r_M_unit : Mem → Option Mem} (fh_M_unit : ∀ {μ : Mem} {μ' : Mem}, r_M_unit μ = some μ' → Fr [1303, 1304, 1305, 1323, 1324, 1325] μ μ') {μo : Mem} : ∀ {n : Nat} {μ : Mem}, M_truth_l1 r_M_unit n μ = some μo → Fr [1303, 1304, 1305, 1323, 1324, 1325] μ μo := by
  intro n
  induction n with
  | zero => intro μ h; exact noS h
  | succ n ih =>
    intro μ h
    replace h : M_truth_l1b r_M_unit (M_truth_l1 r_M_unit n) μ = some μo := h
    unfold M_truth_l1b at h
    have hF : Fr [1303, 1304, 1305, 1323, 1324, 1325] μ μ := Fr.refl
    rcases iteS h with h | h
    · obtain ⟨⟨x1, μ2⟩, h1, h⟩ := bdS h
      replace hF := hF.trans ((M_look_fr h1).mono (by decide))
      rcases iteS h with h | h
      · obtain ⟨μ3, h1, h⟩ := bdS h
        replace hF := fr_mSI (by decide) hF h1
        obtain ⟨μ4, h1, h⟩ := bdS h
        replace hF := hF.trans ((fh_M_unit h1).mono (by decide))
        obtain ⟨μ5, h1, h⟩ := bdS h
        replace hF := hF.trans ((M_put_fr h1).mono (by decide))
        exact hF.trans (ih h)
      · cases h; exact hF
    · cases h; exact hF
set_option maxRecDepth 100000 in
theorem M_truth_B_fr {r_M_unit : Mem → Option Mem} (fh_M_unit : ∀ {μ : Mem} {μ' : Mem}, r_M_unit μ = some μ' → Fr [1303, 1304, 1305, 1323, 1324, 1325] μ μ') {μ : Mem} {μ' : Mem} (h : M_truth_B r_M_unit μ = some μ') : Fr [1303, 1304, 1305, 1323, 1324, 1325] μ μ' := by
  unfold M_truth_B at h
  have hF : Fr [1303, 1304, 1305, 1323, 1324, 1325] μ μ := Fr.refl
  obtain ⟨μ1, h1, h⟩ := bdS h
  replace hF := hF.trans ((fh_M_unit h1).mono (by decide))
  obtain ⟨μ2, h1, h⟩ := bdS h
  replace hF := hF.trans ((M_truth_l1_fr fh_M_unit h1).mono (by decide))
  cases h; exact hF
set_option maxRecDepth 100000 in
theorem M_condition_l1_fr {r_M_truth : Mem → Option Mem} (fh_M_truth : ∀ {μ : Mem} {μ' : Mem}, r_M_truth μ = some μ' → Fr [1303, 1304, 1305, 1323, 1324, 1325] μ μ') {μo : Mem} : ∀ {n : Nat} {μ : Mem}, M_condition_l1 r_M_truth n μ = some μo → Fr [1303, 1304, 1305, 1323, 1324, 1325] μ μo := by
  intro n
  induction n with
  | zero => intro μ h; exact noS h
  | succ n ih =>
    intro μ h
    replace h : M_condition_l1b r_M_truth (M_condition_l1 r_M_truth n) μ = some μo := h
    unfold M_condition_l1b at h
    have hF : Fr [1303, 1304, 1305, 1323, 1324, 1325] μ μ := Fr.refl
    rcases iteS h with h | h
    · obtain ⟨⟨x1, μ2⟩, h1, h⟩ := bdS h
      replace hF := hF.trans ((M_look_fr h1).mono (by decide))
      rcases iteS h with h | h
      · obtain ⟨μ3, h1, h⟩ := bdS h
        replace hF := fr_mSI (by decide) hF h1
        obtain ⟨μ4, h1, h⟩ := bdS h
        replace hF := hF.trans ((fh_M_truth h1).mono (by decide))
        obtain ⟨μ5, h1, h⟩ := bdS h
        replace hF := hF.trans ((M_put_fr h1).mono (by decide))
        exact hF.trans (ih h)
      · cases h; exact hF
    · cases h; exact hF
set_option maxRecDepth 100000 in
theorem M_condition_B_fr {r_M_truth : Mem → Option Mem} (fh_M_truth : ∀ {μ : Mem} {μ' : Mem}, r_M_truth μ = some μ' → Fr [1303, 1304, 1305, 1323, 1324, 1325] μ μ') {μ : Mem} {μ' : Mem} (h : M_condition_B r_M_truth μ = some μ') : Fr [1303, 1304, 1305, 1323, 1324, 1325] μ μ' := by
  unfold M_condition_B at h
  have hF : Fr [1303, 1304, 1305, 1323, 1324, 1325] μ μ := Fr.refl
  obtain ⟨μ1, h1, h⟩ := bdS h
  replace hF := hF.trans ((fh_M_truth h1).mono (by decide))
  obtain ⟨μ2, h1, h⟩ := bdS h
  replace hF := hF.trans ((M_condition_l1_fr fh_M_truth h1).mono (by decide))
  cases h; exact hF
theorem G_M_unit_fr : ∀ n : Nat, (∀ {μ : Mem} {μ' : Mem}, M_unit n μ = some μ' → Fr [1303, 1304, 1305, 1323, 1324, 1325] μ μ') ∧ (∀ {μ : Mem} {μ' : Mem}, M_truth n μ = some μ' → Fr [1303, 1304, 1305, 1323, 1324, 1325] μ μ') ∧ (∀ {μ : Mem} {μ' : Mem}, M_condition n μ = some μ' → Fr [1303, 1304, 1305, 1323, 1324, 1325] μ μ') := by
  intro n
  induction n with
  | zero => exact ⟨fun h => noS h, fun h => noS h, fun h => noS h⟩
  | succ n ih =>
    obtain ⟨fh_M_unit, fh_M_truth, fh_M_condition⟩ := ih
    refine ⟨?_, ?_, ?_⟩
    · intro μ μ' h
      rw [M_unit_s] at h
      exact M_unit_B_fr fh_M_unit fh_M_condition h
    · intro μ μ' h
      rw [M_truth_s] at h
      exact M_truth_B_fr fh_M_unit h
    · intro μ μ' h
      rw [M_condition_s] at h
      exact M_condition_B_fr fh_M_truth h

theorem M_unit_fr {n : Nat} {μ : Mem} {μ' : Mem} (h : M_unit n μ = some μ') : Fr [1303, 1304, 1305, 1323, 1324, 1325] μ μ' := (G_M_unit_fr n).1 h
theorem M_truth_fr {n : Nat} {μ : Mem} {μ' : Mem} (h : M_truth n μ = some μ') : Fr [1303, 1304, 1305, 1323, 1324, 1325] μ μ' := (G_M_unit_fr n).2.1 h
theorem M_condition_fr {n : Nat} {μ : Mem} {μ' : Mem} (h : M_condition n μ = some μ') : Fr [1303, 1304, 1305, 1323, 1324, 1325] μ μ' := (G_M_unit_fr n).2.2 h
set_option maxRecDepth 100000 in
theorem M_goOn_l1_fr {μo : Mem} : ∀ {n : Nat} {μ : Mem}, M_goOn_l1 n μ = some μo → Fr [1303, 1304, 1305, 1323, 1324, 1325] μ μo := by
  intro n
  induction n with
  | zero => intro μ h; exact noS h
  | succ n ih =>
    intro μ h
    replace h : M_goOn_l1b (M_goOn_l1 n) μ = some μo := h
    unfold M_goOn_l1b at h
    have hF : Fr [1303, 1304, 1305, 1323, 1324, 1325] μ μ := Fr.refl
    rcases iteS h with h | h
    · obtain ⟨⟨x1, μ2⟩, h1, h⟩ := bdS h
      replace hF := hF.trans ((M_look_fr h1).mono (by decide))
      rcases iteS h with h | h
      · obtain ⟨μ3, h1, h⟩ := bdS h
        replace hF := fr_mSI (by decide) hF h1
        obtain ⟨μ4, h1, h⟩ := bdS h
        replace hF := hF.trans ((M_unit_fr h1).mono (by decide))
        obtain ⟨μ5, h1, h⟩ := bdS h
        replace hF := hF.trans ((M_put_fr h1).mono (by decide))
        exact hF.trans (ih h)
      · cases h; exact hF
    · cases h; exact hF
set_option maxRecDepth 100000 in
theorem M_goOn_l2_fr {μo : Mem} : ∀ {n : Nat} {μ : Mem}, M_goOn_l2 n μ = some μo → Fr [1303, 1304, 1305, 1323, 1324, 1325] μ μo := by
  intro n
  induction n with
  | zero => intro μ h; exact noS h
  | succ n ih =>
    intro μ h
    replace h : M_goOn_l2b (M_goOn_l2 n) μ = some μo := h
    unfold M_goOn_l2b at h
    have hF : Fr [1303, 1304, 1305, 1323, 1324, 1325] μ μ := Fr.refl
    rcases iteS h with h | h
    · obtain ⟨⟨x1, μ2⟩, h1, h⟩ := bdS h
      replace hF := hF.trans ((M_look_fr h1).mono (by decide))
      rcases iteS h with h | h
      · obtain ⟨μ3, h1, h⟩ := bdS h
        replace hF := fr_mSI (by decide) hF h1
        obtain ⟨μ4, h1, h⟩ := bdS h
        replace hF := hF.trans ((M_truth_fr h1).mono (by decide))
        obtain ⟨μ5, h1, h⟩ := bdS h
        replace hF := hF.trans ((M_put_fr h1).mono (by decide))
        exact hF.trans (ih h)
      · cases h; exact hF
    · cases h; exact hF
set_option maxRecDepth 100000 in
theorem M_goOn_fr {μ : Mem} {μ' : Mem} (h : M_goOn μ = some μ') : Fr [1303, 1304, 1305, 1323, 1324, 1325] μ μ' := by
  unfold M_goOn at h
  have hF : Fr [1303, 1304, 1305, 1323, 1324, 1325] μ μ := Fr.refl
  obtain ⟨μ1, h1, h⟩ := bdS h
  replace hF := hF.trans ((M_compare_fr h1).mono (by decide))
  obtain ⟨μ2, h1, h⟩ := bdS h
  replace hF := hF.trans ((M_goOn_l1_fr h1).mono (by decide))
  obtain ⟨μ3, h1, h⟩ := bdS h
  replace hF := hF.trans ((M_goOn_l2_fr h1).mono (by decide))
  cases h; exact hF
set_option maxRecDepth 100000 in
theorem M_clause_fr {μ : Mem} {μ' : Mem} (h : M_clause μ = some μ') : Fr [1303, 1304, 1305, 1323, 1324, 1325, 1326, 1327, 1328, 1329] μ μ' := by
  unfold M_clause at h
  have hF : Fr [1303, 1304, 1305, 1323, 1324, 1325, 1326, 1327, 1328, 1329] μ μ := Fr.refl
  obtain ⟨_, _, h⟩ := bdS h
  obtain ⟨_, _, h⟩ := bdS h
  obtain ⟨μ6, hj, h⟩ := bdS h
  replace hF : Fr [1303, 1304, 1305, 1323, 1324, 1325, 1326, 1327, 1328, 1329] μ μ6 := by
    clear h
    replace h := hj
    clear hj
    rcases iteS h with h | h
    · obtain ⟨⟨x3, μ4⟩, h1, h⟩ := bdS h
      replace hF := hF.trans ((M_look_fr h1).mono (by decide))
      rcases iteS h with h | h
      · cases h; exact hF
      · obtain ⟨μ5, h1, h⟩ := bdS h
        replace hF := hF.trans ((M_bad_fr h1).mono (by decide))
        cases h; exact hF
    · cases h; exact hF
  obtain ⟨μ7, h1, h⟩ := bdS h
  replace hF := fr_mSI (by decide) hF h1
  obtain ⟨μ11, hj, h⟩ := bdS h
  replace hF : Fr [1303, 1304, 1305, 1323, 1324, 1325, 1326, 1327, 1328, 1329] μ μ11 := by
    clear h
    replace h := hj
    clear hj
    rcases iteS h with h | h
    · obtain ⟨⟨x8, μ9⟩, h1, h⟩ := bdS h
      replace hF := hF.trans ((M_look_fr h1).mono (by decide))
      rcases iteS h with h | h
      · cases h; exact hF
      · obtain ⟨μ10, h1, h⟩ := bdS h
        replace hF := hF.trans ((M_bad_fr h1).mono (by decide))
        cases h; exact hF
    · cases h; exact hF
  obtain ⟨μ12, h1, h⟩ := bdS h
  replace hF := fr_mSI (by decide) hF h1
  rcases iteS h with h | h
  · obtain ⟨_, _, h⟩ := bdS h
    obtain ⟨μ14, h1, h⟩ := bdS h
    replace hF := fr_mWr (by decide) hF h1
    obtain ⟨⟨x15, μ16⟩, h1, h⟩ := bdS h
    replace hF := hF.trans ((M_look_fr h1).mono (by decide))
    obtain ⟨⟨x19, μ20⟩, hj, h⟩ := bdS h
    replace hF : Fr [1303, 1304, 1305, 1323, 1324, 1325, 1326, 1327, 1328, 1329] μ μ20 := by
      clear h
      replace h := hj
      clear hj
      rcases iteS h with h | h
      · cases h; exact hF
      · obtain ⟨⟨x17, μ18⟩, h1, h⟩ := bdS h
        replace hF := hF.trans ((M_look_fr h1).mono (by decide))
        rcases iteS h with h | h
        · cases h; exact hF
        · cases h; exact hF
    obtain ⟨⟨x29, μ30⟩, hj, h⟩ := bdS h
    replace hF : Fr [1303, 1304, 1305, 1323, 1324, 1325, 1326, 1327, 1328, 1329] μ μ30 := by
      clear h
      replace h := hj
      clear hj
      rcases iteS h with h | h
      · obtain ⟨μ21, h1, h⟩ := bdS h
        replace hF := hF.trans ((M_sum_fr h1).mono (by decide))
        obtain ⟨⟨x25, μ26⟩, hj, h⟩ := bdS h
        replace hF : Fr [1303, 1304, 1305, 1323, 1324, 1325, 1326, 1327, 1328, 1329] μ μ26 := by
          clear h
          replace h := hj
          clear hj
          rcases iteS h with h | h
          · obtain ⟨⟨x22, μ23⟩, h1, h⟩ := bdS h
            replace hF := hF.trans ((M_look_fr h1).mono (by decide))
            obtain ⟨_, _, h⟩ := bdS h
            rcases iteS h with h | h
            · cases h; exact hF
            · cases h; exact hF
          · cases h; exact hF
        rcases iteS h with h | h
        · cases h; exact hF
        · obtain ⟨μ27, h1, h⟩ := bdS h
          replace hF := hF.trans ((M_goOn_fr h1).mono (by decide))
          cases h; exact hF
      · obtain ⟨μ28, h1, h⟩ := bdS h
        replace hF := hF.trans ((M_condition_fr h1).mono (by decide))
        cases h; exact hF
    obtain ⟨_, _, h⟩ := bdS h
    obtain ⟨μ32, h1, h⟩ := bdS h
    replace hF := fr_mWr (by decide) hF h1
    obtain ⟨k41, hkk41, h⟩ := kE h
    have Jk41 : ∀ (μ40 : Mem), Fr [1303, 1304, 1305, 1323, 1324, 1325, 1326, 1327, 1328, 1329] μ μ40 → k41 μ40 = some μ' → Fr [1303, 1304, 1305, 1323, 1324, 1325, 1326, 1327, 1328, 1329] μ μ' := by
      clear h hF
      intro μ40 hF h
      rw [hkk41] at h
      obtain ⟨_, _, h⟩ := bdS h
      obtain ⟨μ43, h1, h⟩ := bdS h
      replace hF := fr_mWr (by decide) hF h1
      obtain ⟨_, _, h⟩ := bdS h
      obtain ⟨μ45, h1, h⟩ := bdS h
      replace hF := fr_mWr (by decide) hF h1
      cases h; exact hF
    rcases iteS h with h | h
    · exact Jk41 _ hF h
    · rcases iteS h with h | h
      · obtain ⟨⟨x33, μ34⟩, h1, h⟩ := bdS h
        replace hF := hF.trans ((M_look_fr h1).mono (by decide))
        rcases iteS h with h | h
        · obtain ⟨μ35, h1, h⟩ := bdS h
          replace hF := fr_mSI (by decide) hF h1
          obtain ⟨_, _, h⟩ := bdS h
          obtain ⟨μ37, h1, h⟩ := bdS h
          replace hF := fr_mWr (by decide) hF h1
          obtain ⟨μ38, h1, h⟩ := bdS h
          replace hF := hF.trans ((M_sum_fr h1).mono (by decide))
          exact Jk41 _ hF h
        · obtain ⟨μ39, h1, h⟩ := bdS h
          replace hF := hF.trans ((M_bad_fr h1).mono (by decide))
          cases h; exact hF
      · exact Jk41 _ hF h
  · cases h; exact hF
set_option maxRecDepth 100000 in
theorem M_readLaw_l1_fr {μo : Mem} : ∀ {n : Nat} {μ : Mem}, M_readLaw_l1 n μ = some μo → Fr [1303, 1304, 1305, 1323, 1324, 1325, 1326, 1327, 1328, 1329, 1331] μ μo := by
  intro n
  induction n with
  | zero => intro μ h; exact noS h
  | succ n ih =>
    intro μ h
    replace h : M_readLaw_l1b (M_readLaw_l1 n) μ = some μo := h
    unfold M_readLaw_l1b at h
    have hF : Fr [1303, 1304, 1305, 1323, 1324, 1325, 1326, 1327, 1328, 1329, 1331] μ μ := Fr.refl
    rcases iteS h with h | h
    · obtain ⟨⟨x1, μ2⟩, h1, h⟩ := bdS h
      replace hF := hF.trans ((M_look_fr h1).mono (by decide))
      rcases iteS h with h | h
      · obtain ⟨μ3, h1, h⟩ := bdS h
        replace hF := fr_mSI (by decide) hF h1
        obtain ⟨μ4, h1, h⟩ := bdS h
        replace hF := hF.trans ((M_clause_fr h1).mono (by decide))
        exact hF.trans (ih h)
      · cases h; exact hF
    · cases h; exact hF
set_option maxRecDepth 100000 in
theorem M_readLaw_fr {a1 : Int32} {μ : Mem} {r : Int32} {μ' : Mem} (h : M_readLaw a1 μ = some (r, μ')) : Fr [1303, 1304, 1305, 1323, 1324, 1325, 1326, 1327, 1328, 1329, 1331] μ μ' := by
  unfold M_readLaw at h
  have hF : Fr [1303, 1304, 1305, 1323, 1324, 1325, 1326, 1327, 1328, 1329, 1331] μ μ := Fr.refl
  obtain ⟨μ1, h1, h⟩ := bdS h
  replace hF := fr_mSI (by decide) hF h1
  obtain ⟨μ2, h1, h⟩ := bdS h
  replace hF := fr_mSI (by decide) hF h1
  obtain ⟨μ3, h1, h⟩ := bdS h
  replace hF := fr_mSI (by decide) hF h1
  obtain ⟨μ4, h1, h⟩ := bdS h
  replace hF := fr_mSI (by decide) hF h1
  obtain ⟨μ5, h1, h⟩ := bdS h
  replace hF := fr_mWr (by decide) hF h1
  obtain ⟨μ6, h1, h⟩ := bdS h
  replace hF := fr_mWr (by decide) hF h1
  obtain ⟨μ7, h1, h⟩ := bdS h
  replace hF := hF.trans ((M_clause_fr h1).mono (by decide))
  obtain ⟨μ8, h1, h⟩ := bdS h
  replace hF := hF.trans ((M_readLaw_l1_fr h1).mono (by decide))
  rcases iteS h with h | h
  · obtain ⟨⟨x9, μ10⟩, h1, h⟩ := bdS h
    replace hF := hF.trans ((M_look_fr h1).mono (by decide))
    rcases iteS h with h | h
    · cases h; exact hF
    · obtain ⟨μ11, h1, h⟩ := bdS h
      replace hF := hF.trans ((M_bad_fr h1).mono (by decide))
      cases h; exact hF
  · cases h; exact hF
set_option maxRecDepth 100000 in
theorem M_fault_fr {a1 : Int32} {μ : Mem} {r : Int32} {μ' : Mem} (h : M_fault a1 μ = some (r, μ')) : Fr [1303, 1304, 1305, 1315, 1316, 1317, 1318, 1319, 1320, 1323, 1324, 1325, 1326, 1327, 1328, 1329, 1331] μ μ' := by
  unfold M_fault at h
  have hF : Fr [1303, 1304, 1305, 1315, 1316, 1317, 1318, 1319, 1320, 1323, 1324, 1325, 1326, 1327, 1328, 1329, 1331] μ μ := Fr.refl
  rcases iteS h with h | h
  · obtain ⟨⟨x3, μ4⟩, h1, h⟩ := bdS h
    replace hF := hF.trans ((M_readPage_fr h1).mono (by decide))
    cases h; exact hF
  · rcases iteS h with h | h
    · obtain ⟨⟨x1, μ2⟩, h1, h⟩ := bdS h
      replace hF := hF.trans ((M_readLaw_fr h1).mono (by decide))
      cases h; exact hF
    · cases h; exact hF
set_option maxRecDepth 100000 in
theorem M_text_fr {a1 : Int32} {μ : Mem} {r : Int32} {μ' : Mem} (h : M_text a1 μ = some (r, μ')) : Fr [1302, 1303, 1304, 1305, 1315, 1316, 1317, 1318, 1319, 1320, 1321, 1322, 1323, 1324, 1325, 1326, 1327, 1328, 1329, 1330, 1331] μ μ' := by
  unfold M_text at h
  have hF : Fr [1302, 1303, 1304, 1305, 1315, 1316, 1317, 1318, 1319, 1320, 1321, 1322, 1323, 1324, 1325, 1326, 1327, 1328, 1329, 1330, 1331] μ μ := Fr.refl
  rcases iteS h with h | h
  · rcases iteS h with h | h
    · cases h; exact hF
    · obtain ⟨⟨x5, μ6⟩, h1, h⟩ := bdS h
      replace hF := hF.trans ((M_readPage_fr h1).mono (by decide))
      rcases iteS h with h | h
      · obtain ⟨μ7, h1, h⟩ := bdS h
        replace hF := fr_mWr (by decide) hF h1
        obtain ⟨μ8, h1, h⟩ := bdS h
        replace hF := fr_mSI (by decide) hF h1
        obtain ⟨μ9, h1, h⟩ := bdS h
        replace hF := fr_mSI (by decide) hF h1
        cases h; exact hF
      · cases h; exact hF
  · rcases iteS h with h | h
    · rcases iteS h with h | h
      · cases h; exact hF
      · obtain ⟨⟨x1, μ2⟩, h1, h⟩ := bdS h
        replace hF := hF.trans ((M_readLaw_fr h1).mono (by decide))
        rcases iteS h with h | h
        · obtain ⟨μ3, h1, h⟩ := bdS h
          replace hF := fr_mSI (by decide) hF h1
          obtain ⟨μ4, h1, h⟩ := bdS h
          replace hF := fr_mSI (by decide) hF h1
          cases h; exact hF
        · cases h; exact hF
    · cases h; exact hF
set_option maxRecDepth 100000 in
theorem M_workOut_l1_fr {v1 : Int32} {v3 : Int32} {μo : Mem} : ∀ {n : Nat} {v4 : Int32} {v5 : Int32} {μ : Mem}, M_workOut_l1 v1 v3 n v4 v5 μ = some μo → Fr [1333] μ μo := by
  intro n
  induction n with
  | zero => intro v4 v5 μ h; exact noS h
  | succ n ih =>
    intro v4 v5 μ h
    replace h : M_workOut_l1b v1 v3 (M_workOut_l1 v1 v3 n) v4 v5 μ = some μo := h
    unfold M_workOut_l1b at h
    have hF : Fr [1333] μ μ := Fr.refl
    rcases iteS h with h | h
    · obtain ⟨_, _, h⟩ := bdS h
      obtain ⟨⟨x26, μ27⟩, hj, h⟩ := bdS h
      replace hF : Fr [1333] μ μ27 := by
        clear h
        replace h := hj
        clear hj
        rcases iteS h with h | h
        · obtain ⟨_, _, h⟩ := bdS h
          obtain ⟨x6, _, h⟩ := bdS h
          obtain ⟨μ7, h1, h⟩ := bdS h
          replace hF := fr_mWr (by decide) hF h1
          obtain ⟨_, _, h⟩ := bdS h
          cases h; exact hF
        · obtain ⟨_, _, h⟩ := bdS h
          rcases iteS h with h | h
          · obtain ⟨_, _, h⟩ := bdS h
            obtain ⟨x23, _, h⟩ := bdS h
            obtain ⟨μ24, h1, h⟩ := bdS h
            replace hF := fr_mWr (by decide) hF h1
            obtain ⟨_, _, h⟩ := bdS h
            cases h; exact hF
          · obtain ⟨_, _, h⟩ := bdS h
            rcases iteS h with h | h
            · obtain ⟨_, _, h⟩ := bdS h
              obtain ⟨μ18, h1, h⟩ := bdS h
              replace hF := fr_mWr (by decide) hF h1
              cases h; exact hF
            · obtain ⟨_, _, h⟩ := bdS h
              obtain ⟨_, _, h⟩ := bdS h
              obtain ⟨_, _, h⟩ := bdS h
              obtain ⟨_, _, h⟩ := bdS h
              obtain ⟨_, _, h⟩ := bdS h
              obtain ⟨μ16, h1, h⟩ := bdS h
              replace hF := fr_mWr (by decide) hF h1
              cases h; exact hF
      obtain ⟨_, _, h⟩ := bdS h
      exact hF.trans (ih h)
    · cases h; exact hF
set_option maxRecDepth 100000 in
theorem M_workOut_fr {a1 : Int32} {a2 : Int32} {a3 : Int32} {μ : Mem} {r : Int32} {μ' : Mem} (h : M_workOut a1 a2 a3 μ = some (r, μ')) : Fr [1333] μ μ' := by
  unfold M_workOut at h
  have hF : Fr [1333] μ μ := Fr.refl
  obtain ⟨_, _, h⟩ := bdS h
  obtain ⟨μ2, h1, h⟩ := bdS h
  replace hF := hF.trans ((M_workOut_l1_fr h1).mono (by decide))
  obtain ⟨_, _, h⟩ := bdS h
  cases h; exact hF
set_option maxRecDepth 100000 in
theorem M_worthNow_l1_fr {v1 : Int32} {r : Int32} {μ' : Mem} : ∀ {n : Nat} {v2 : Int32} {μ : Mem}, M_worthNow_l1 v1 n v2 μ = some (r, μ') → Fr [1333] μ μ' := by
  intro n
  induction n with
  | zero => intro v2 μ h; exact noS h
  | succ n ih =>
    intro v2 μ h
    replace h : M_worthNow_l1b v1 (M_worthNow_l1 v1 n) v2 μ = some (r, μ') := h
    unfold M_worthNow_l1b at h
    have hF : Fr [1333] μ μ := Fr.refl
    obtain ⟨_, _, h⟩ := bdS h
    rcases iteS h with h | h
    · obtain ⟨_, _, h⟩ := bdS h
      obtain ⟨_, _, h⟩ := bdS h
      obtain ⟨k10, hkk10, h⟩ := kE h
      have Jk10 : ∀ (μ9 : Mem), Fr [1333] μ μ9 → k10 μ9 = some (r, μ') → Fr [1333] μ μ' := by
        clear h hF
        intro μ9 hF h
        rw [hkk10] at h
        obtain ⟨_, _, h⟩ := bdS h
        obtain ⟨_, _, h⟩ := bdS h
        obtain ⟨⟨x13, μ14⟩, h1, h⟩ := bdS h
        replace hF := hF.trans ((M_workOut_fr h1).mono (by decide))
        cases h; exact hF
      rcases iteS h with h | h
      · exact Jk10 _ hF h
      · obtain ⟨_, _, h⟩ := bdS h
        obtain ⟨_, _, h⟩ := bdS h
        obtain ⟨⟨x6, μ7⟩, h1, h⟩ := bdS h
        replace hF := hF.trans ((M_workOut_fr h1).mono (by decide))
        rcases iteS h with h | h
        · obtain ⟨_, _, h⟩ := bdS h
          exact hF.trans (ih h)
        · exact Jk10 _ hF h
    · cases h; exact hF
set_option maxRecDepth 100000 in
theorem M_worthNow_fr {a1 : Int32} {μ : Mem} {r : Int32} {μ' : Mem} (h : M_worthNow a1 μ = some (r, μ')) : Fr [1333] μ μ' := by
  unfold M_worthNow at h
  have hF : Fr [1333] μ μ := Fr.refl
  obtain ⟨_, _, h⟩ := bdS h
  exact hF.trans ((M_worthNow_l1_fr h).mono (by decide))
set_option maxRecDepth 100000 in
theorem M_page_fr {a1 : Int32} {a2 : Int32} {μ : Mem} {r : Int32} {μ' : Mem} (h : M_page a1 a2 μ = some (r, μ')) : Fr [1300] μ μ' := by
  unfold M_page at h
  have hF : Fr [1300] μ μ := Fr.refl
  obtain ⟨_, _, h⟩ := bdS h
  obtain ⟨x3, _, h⟩ := bdS h
  obtain ⟨μ4, h1, h⟩ := bdS h
  replace hF := fr_mSI (by decide) hF h1
  rcases iteS h with h | h
  · cases h; exact hF
  · rcases iteS h with h | h
    · obtain ⟨_, _, h⟩ := bdS h
      cases h; exact hF
    · rcases iteS h with h | h
      · obtain ⟨_, _, h⟩ := bdS h
        cases h; exact hF
      · rcases iteS h with h | h
        · obtain ⟨_, _, h⟩ := bdS h
          cases h; exact hF
        · obtain ⟨_, _, h⟩ := bdS h
          cases h; exact hF
set_option maxRecDepth 100000 in
theorem M_most_fr {a1 : Int32} {μ : Mem} {r : Int32} {μ' : Mem} (h : M_most a1 μ = some (r, μ')) : Fr [1339] μ μ' := by
  unfold M_most at h
  have hF : Fr [1339] μ μ := Fr.refl
  obtain ⟨_, _, h⟩ := bdS h
  rcases iteS h with h | h
  · obtain ⟨_, _, h⟩ := bdS h
    cases h; exact hF
  · obtain ⟨μ2, h1, h⟩ := bdS h
    replace hF := fr_mSI (by decide) hF h1
    obtain ⟨_, _, h⟩ := bdS h
    cases h; exact hF
set_option maxRecDepth 100000 in
theorem M_hold_fr {a1 : Int32} {a2 : Int32} {a3 : Int32} {a4 : Int32} {μ : Mem} {r : Int32} {μ' : Mem} (h : M_hold a1 a2 a3 a4 μ = some (r, μ')) : Fr [1334, 1335, 1336, 1337, 1338] μ μ' := by
  unfold M_hold at h
  have hF : Fr [1334, 1335, 1336, 1337, 1338] μ μ := Fr.refl
  obtain ⟨_, _, h⟩ := bdS h
  rcases iteS h with h | h
  · cases h; exact hF
  · obtain ⟨_, _, h⟩ := bdS h
    rcases iteS h with h | h
    · cases h; exact hF
    · obtain ⟨_, _, h⟩ := bdS h
      rcases iteS h with h | h
      · cases h; exact hF
      · obtain ⟨_, _, h⟩ := bdS h
        rcases iteS h with h | h
        · cases h; exact hF
        · rcases iteS h with h | h
          · cases h; exact hF
          · obtain ⟨μ5, h1, h⟩ := bdS h
            replace hF := fr_mWr (by decide) hF h1
            obtain ⟨μ6, h1, h⟩ := bdS h
            replace hF := fr_mWr (by decide) hF h1
            obtain ⟨μ7, h1, h⟩ := bdS h
            replace hF := fr_mWr (by decide) hF h1
            obtain ⟨μ8, h1, h⟩ := bdS h
            replace hF := fr_mWr (by decide) hF h1
            obtain ⟨μ9, h1, h⟩ := bdS h
            replace hF := fr_mSI (by decide) hF h1
            cases h; exact hF
set_option maxRecDepth 100000 in
theorem M_lay_l1_fr {v1 : Int32} {μo : Mem} : ∀ {n : Nat} {v3 : Int32} {v4 : Int32} {μ : Mem}, M_lay_l1 v1 n v3 v4 μ = some μo → Fr [1340] μ μo := by
  intro n
  induction n with
  | zero => intro v3 v4 μ h; exact noS h
  | succ n ih =>
    intro v3 v4 μ h
    replace h : M_lay_l1b v1 (M_lay_l1 v1 n) v3 v4 μ = some μo := h
    unfold M_lay_l1b at h
    have hF : Fr [1340] μ μ := Fr.refl
    rcases iteS h with h | h
    · cases h; exact hF
    · obtain ⟨_, _, h⟩ := bdS h
      obtain ⟨_, _, h⟩ := bdS h
      obtain ⟨_, _, h⟩ := bdS h
      obtain ⟨μ4, h1, h⟩ := bdS h
      replace hF := fr_mWr (by decide) hF h1
      obtain ⟨_, _, h⟩ := bdS h
      obtain ⟨_, _, h⟩ := bdS h
      exact hF.trans (ih h)
set_option maxRecDepth 100000 in
theorem M_lay_fr {a1 : Int32} {a2 : Int32} {μ : Mem} {μ' : Mem} (h : M_lay a1 a2 μ = some μ') : Fr [1340] μ μ' := by
  unfold M_lay at h
  have hF : Fr [1340] μ μ := Fr.refl
  obtain ⟨_, _, h⟩ := bdS h
  obtain ⟨_, _, h⟩ := bdS h
  obtain ⟨μ3, h1, h⟩ := bdS h
  replace hF := hF.trans ((M_lay_l1_fr h1).mono (by decide))
  cases h; exact hF
set_option maxRecDepth 100000 in
theorem M_spell_l1_fr {v1 : Int32} {μo : Mem} : ∀ {n : Nat} {v2 : Int32} {μ : Mem}, M_spell_l1 v1 n v2 μ = some μo → Fr [1332] μ μo := by
  intro n
  induction n with
  | zero => intro v2 μ h; exact noS h
  | succ n ih =>
    intro v2 μ h
    replace h : M_spell_l1b v1 (M_spell_l1 v1 n) v2 μ = some μo := h
    unfold M_spell_l1b at h
    have hF : Fr [1332] μ μ := Fr.refl
    rcases iteS h with h | h
    · obtain ⟨μ1, h1, h⟩ := bdS h
      replace hF := fr_mWr (by decide) hF h1
      obtain ⟨_, _, h⟩ := bdS h
      exact hF.trans (ih h)
    · cases h; exact hF
set_option maxRecDepth 100000 in
theorem M_spell_l2_fr {v1 : Int32} {μo : Mem} : ∀ {n : Nat} {v2 : Int32} {μ : Mem}, M_spell_l2 v1 n v2 μ = some μo → Fr [1332] μ μo := by
  intro n
  induction n with
  | zero => intro v2 μ h; exact noS h
  | succ n ih =>
    intro v2 μ h
    replace h : M_spell_l2b v1 (M_spell_l2 v1 n) v2 μ = some μo := h
    unfold M_spell_l2b at h
    have hF : Fr [1332] μ μ := Fr.refl
    obtain ⟨_, _, h⟩ := bdS h
    rcases iteS h with h | h
    · obtain ⟨_, _, h⟩ := bdS h
      obtain ⟨_, _, h⟩ := bdS h
      obtain ⟨_, _, h⟩ := bdS h
      obtain ⟨_, _, h⟩ := bdS h
      obtain ⟨μ6, h1, h⟩ := bdS h
      replace hF := fr_mWr (by decide) hF h1
      obtain ⟨_, _, h⟩ := bdS h
      obtain ⟨_, _, h⟩ := bdS h
      obtain ⟨_, _, h⟩ := bdS h
      obtain ⟨μ10, h1, h⟩ := bdS h
      replace hF := fr_mWr (by decide) hF h1
      obtain ⟨_, _, h⟩ := bdS h
      obtain ⟨_, _, h⟩ := bdS h
      obtain ⟨_, _, h⟩ := bdS h
      obtain ⟨μ14, h1, h⟩ := bdS h
      replace hF := fr_mWr (by decide) hF h1
      obtain ⟨_, _, h⟩ := bdS h
      obtain ⟨_, _, h⟩ := bdS h
      obtain ⟨μ17, h1, h⟩ := bdS h
      replace hF := fr_mWr (by decide) hF h1
      obtain ⟨_, _, h⟩ := bdS h
      obtain ⟨x20, _, h⟩ := bdS h
      obtain ⟨μ21, h1, h⟩ := bdS h
      replace hF := fr_mWr (by decide) hF h1
      obtain ⟨_, _, h⟩ := bdS h
      exact hF.trans (ih h)
    · cases h; exact hF
set_option maxRecDepth 100000 in
theorem M_spell_l3_fr {v1 : Int32} {μo : Mem} : ∀ {n : Nat} {v2 : Int32} {μ : Mem}, M_spell_l3 v1 n v2 μ = some μo → Fr [1332] μ μo := by
  intro n
  induction n with
  | zero => intro v2 μ h; exact noS h
  | succ n ih =>
    intro v2 μ h
    replace h : M_spell_l3b v1 (M_spell_l3 v1 n) v2 μ = some μo := h
    unfold M_spell_l3b at h
    have hF : Fr [1332] μ μ := Fr.refl
    obtain ⟨_, _, h⟩ := bdS h
    rcases iteS h with h | h
    · obtain ⟨_, _, h⟩ := bdS h
      obtain ⟨x3, _, h⟩ := bdS h
      obtain ⟨_, _, h⟩ := bdS h
      obtain ⟨μ5, h1, h⟩ := bdS h
      replace hF := fr_mWr (by decide) hF h1
      obtain ⟨_, _, h⟩ := bdS h
      exact hF.trans (ih h)
    · cases h; exact hF
set_option maxRecDepth 100000 in
theorem M_spell_fr {a1 : Int32} {μ : Mem} {μ' : Mem} (h : M_spell a1 μ = some μ') : Fr [1332] μ μ' := by
  unfold M_spell at h
  have hF : Fr [1332] μ μ := Fr.refl
  obtain ⟨μ1, h1, h⟩ := bdS h
  replace hF := hF.trans ((M_spell_l1_fr h1).mono (by decide))
  obtain ⟨μ2, h1, h⟩ := bdS h
  replace hF := hF.trans ((M_spell_l2_fr h1).mono (by decide))
  obtain ⟨μ3, h1, h⟩ := bdS h
  replace hF := hF.trans ((M_spell_l3_fr h1).mono (by decide))
  cases h; exact hF
set_option maxRecDepth 100000 in
theorem M_isKept_l1_fr {v1 : Int32} {r : Int32} {μ' : Mem} : ∀ {n : Nat} {v2 : Int32} {μ : Mem}, M_isKept_l1 v1 n v2 μ = some (r, μ') → Fr [1333] μ μ' := by
  intro n
  induction n with
  | zero => intro v2 μ h; exact noS h
  | succ n ih =>
    intro v2 μ h
    replace h : M_isKept_l1b v1 (M_isKept_l1 v1 n) v2 μ = some (r, μ') := h
    unfold M_isKept_l1b at h
    have hF : Fr [1333] μ μ := Fr.refl
    rcases iteS h with h | h
    · obtain ⟨_, _, h⟩ := bdS h
      rcases iteS h with h | h
      · obtain ⟨_, _, h⟩ := bdS h
        obtain ⟨⟨x4, μ5⟩, h1, h⟩ := bdS h
        replace hF := hF.trans ((M_worthNow_fr h1).mono (by decide))
        obtain ⟨_, _, h⟩ := bdS h
        obtain ⟨_, _, h⟩ := bdS h
        obtain ⟨_, _, h⟩ := bdS h
        rcases iteS h with h | h
        · obtain ⟨_, _, h⟩ := bdS h
          cases h; exact hF
        · obtain ⟨_, _, h⟩ := bdS h
          exact hF.trans (ih h)
      · obtain ⟨_, _, h⟩ := bdS h
        exact hF.trans (ih h)
    · obtain ⟨_, _, h⟩ := bdS h
      cases h; exact hF
set_option maxRecDepth 100000 in
theorem M_isKept_fr {a1 : Int32} {μ : Mem} {r : Int32} {μ' : Mem} (h : M_isKept a1 μ = some (r, μ')) : Fr [1333] μ μ' := by
  unfold M_isKept at h
  have hF : Fr [1333] μ μ := Fr.refl
  exact hF.trans ((M_isKept_l1_fr h).mono (by decide))
set_option maxRecDepth 100000 in
theorem M_findDishes_l2_fr {v1 : Int32} {μo : Mem} : ∀ {n : Nat} {v2 : Int32} {μ : Mem}, M_findDishes_l2 v1 n v2 μ = some μo → Fr [1332, 1333, 1340, 1341, 1342, 1343] μ μo := by
  intro n
  induction n with
  | zero => intro v2 μ h; exact noS h
  | succ n ih =>
    intro v2 μ h
    replace h : M_findDishes_l2b v1 (M_findDishes_l2 v1 n) v2 μ = some μo := h
    unfold M_findDishes_l2b at h
    have hF : Fr [1332, 1333, 1340, 1341, 1342, 1343] μ μ := Fr.refl
    rcases iteS h with h | h
    · obtain ⟨μ1, h1, h⟩ := bdS h
      replace hF := hF.trans ((M_lay_fr h1).mono (by decide))
      obtain ⟨μ2, h1, h⟩ := bdS h
      replace hF := hF.trans ((M_spell_fr h1).mono (by decide))
      obtain ⟨⟨x3, μ4⟩, h1, h⟩ := bdS h
      replace hF := hF.trans ((M_isKept_fr h1).mono (by decide))
      obtain ⟨μ7, hj, h⟩ := bdS h
      replace hF : Fr [1332, 1333, 1340, 1341, 1342, 1343] μ μ7 := by
        clear h
        replace h := hj
        clear hj
        rcases iteS h with h | h
        · cases h; exact hF
        · obtain ⟨μ5, h1, h⟩ := bdS h
          replace hF := fr_mWr (by decide) hF h1
          obtain ⟨μ6, h1, h⟩ := bdS h
          replace hF := fr_mSI (by decide) hF h1
          cases h; exact hF
      obtain ⟨_, _, h⟩ := bdS h
      exact hF.trans (ih h)
    · cases h; exact hF
set_option maxRecDepth 100000 in
theorem M_findDishes_l1_fr {v1 : Int32} {r : Int32} {μ' : Mem} : ∀ {n : Nat} {v2 : Int32} {μ : Mem}, M_findDishes_l1 v1 n v2 μ = some (r, μ') → Fr [1332, 1333, 1340, 1341, 1342, 1343] μ μ' := by
  intro n
  induction n with
  | zero => intro v2 μ h; exact noS h
  | succ n ih =>
    intro v2 μ h
    replace h : M_findDishes_l1b v1 (M_findDishes_l1 v1 n) v2 μ = some (r, μ') := h
    unfold M_findDishes_l1b at h
    have hF : Fr [1332, 1333, 1340, 1341, 1342, 1343] μ μ := Fr.refl
    obtain ⟨_, _, h⟩ := bdS h
    rcases iteS h with h | h
    · obtain ⟨_, _, h⟩ := bdS h
      obtain ⟨μ5, h1, h⟩ := bdS h
      replace hF := fr_mSI (by decide) hF h1
      rcases iteS h with h | h
      · obtain ⟨_, _, h⟩ := bdS h
        cases h; exact hF
      · obtain ⟨_, _, h⟩ := bdS h
        exact hF.trans (ih h)
    · obtain ⟨μ2, h1, h⟩ := bdS h
      replace hF := fr_mSI (by decide) hF h1
      obtain ⟨μ3, h1, h⟩ := bdS h
      replace hF := hF.trans ((M_findDishes_l2_fr h1).mono (by decide))
      obtain ⟨_, _, h⟩ := bdS h
      cases h; exact hF
set_option maxRecDepth 100000 in
theorem M_findDishes_fr {a1 : Int32} {μ : Mem} {r : Int32} {μ' : Mem} (h : M_findDishes a1 μ = some (r, μ')) : Fr [1332, 1333, 1340, 1341, 1342, 1343] μ μ' := by
  unfold M_findDishes at h
  have hF : Fr [1332, 1333, 1340, 1341, 1342, 1343] μ μ := Fr.refl
  obtain ⟨μ1, h1, h⟩ := bdS h
  replace hF := fr_mSI (by decide) hF h1
  exact hF.trans ((M_findDishes_l1_fr h).mono (by decide))
set_option maxRecDepth 100000 in
theorem M_isTold_fr {a1 : Int32} {μ : Mem} {r : Int32} {μ' : Mem} (h : M_isTold a1 μ = some (r, μ')) : Fr [1332, 1333, 1340, 1341, 1342, 1343] μ μ' := by
  unfold M_isTold at h
  have hF : Fr [1332, 1333, 1340, 1341, 1342, 1343] μ μ := Fr.refl
  obtain ⟨_, _, h⟩ := bdS h
  rcases iteS h with h | h
  · obtain ⟨_, _, h⟩ := bdS h
    cases h; exact hF
  · obtain ⟨⟨x2, μ3⟩, h1, h⟩ := bdS h
    replace hF := hF.trans ((M_findDishes_fr h1).mono (by decide))
    rcases iteS h with h | h
    · obtain ⟨_, _, h⟩ := bdS h
      cases h; exact hF
    · obtain ⟨_, _, h⟩ := bdS h
      cases h; exact hF
set_option maxRecDepth 100000 in
theorem M_go_fr {a1 : Int32} {a2 : Int32} {μ : Mem} {μ' : Mem} (h : M_go a1 a2 μ = some μ') : Fr [1332, 1340] μ μ' := by
  unfold M_go at h
  have hF : Fr [1332, 1340] μ μ := Fr.refl
  obtain ⟨_, _, h⟩ := bdS h
  obtain ⟨μ2, h1, h⟩ := bdS h
  replace hF := hF.trans ((M_lay_fr h1).mono (by decide))
  obtain ⟨μ3, h1, h⟩ := bdS h
  replace hF := hF.trans ((M_spell_fr h1).mono (by decide))
  cases h; exact hF
set_option maxRecDepth 100000 in
theorem M_dishes_fr {a1 : Int32} {μ : Mem} {r : Int32} {μ' : Mem} (h : M_dishes a1 μ = some (r, μ')) : Fr [1332, 1333, 1340, 1341, 1342, 1343] μ μ' := by
  unfold M_dishes at h
  have hF : Fr [1332, 1333, 1340, 1341, 1342, 1343] μ μ := Fr.refl
  obtain ⟨⟨x1, μ2⟩, h1, h⟩ := bdS h
  replace hF := hF.trans ((M_isTold_fr h1).mono (by decide))
  rcases iteS h with h | h
  · cases h; exact hF
  · cases h; exact hF
set_option maxRecDepth 100000 in
theorem M_dish_fr {a1 : Int32} {a2 : Int32} {a3 : Int32} {μ : Mem} {r : Int32} {μ' : Mem} (h : M_dish a1 a2 a3 μ = some (r, μ')) : Fr [1332, 1333, 1340, 1341, 1342, 1343] μ μ' := by
  unfold M_dish at h
  have hF : Fr [1332, 1333, 1340, 1341, 1342, 1343] μ μ := Fr.refl
  obtain ⟨_, _, h⟩ := bdS h
  rcases iteS h with h | h
  · cases h; exact hF
  · obtain ⟨⟨x2, μ3⟩, h1, h⟩ := bdS h
    replace hF := hF.trans ((M_isTold_fr h1).mono (by decide))
    rcases iteS h with h | h
    · cases h; exact hF
    · obtain ⟨_, _, h⟩ := bdS h
      rcases iteS h with h | h
      · cases h; exact hF
      · obtain ⟨μ5, h1, h⟩ := bdS h
        replace hF := hF.trans ((M_go_fr h1).mono (by decide))
        obtain ⟨_, _, h⟩ := bdS h
        rcases iteS h with h | h
        · cases h; exact hF
        · obtain ⟨_, _, h⟩ := bdS h
          cases h; exact hF
set_option maxRecDepth 100000 in
theorem M_span_l1_fr {v1 : Int32} {v3 : Int32} {v4 : Int32} {o1 : Int32} {μo : Mem} : ∀ {n : Nat} {v5 : Int32} {v6 : Int32} {μ : Mem}, M_span_l1 v1 v3 v4 n v5 v6 μ = some (o1, μo) → Fr [1332, 1333, 1340, 1341, 1342, 1343] μ μo := by
  intro n
  induction n with
  | zero => intro v5 v6 μ h; exact noS h
  | succ n ih =>
    intro v5 v6 μ h
    replace h : M_span_l1b v1 v3 v4 (M_span_l1 v1 v3 v4 n) v5 v6 μ = some (o1, μo) := h
    unfold M_span_l1b at h
    have hF : Fr [1332, 1333, 1340, 1341, 1342, 1343] μ μ := Fr.refl
    rcases iteS h with h | h
    · obtain ⟨μ1, h1, h⟩ := bdS h
      replace hF := hF.trans ((M_go_fr h1).mono (by decide))
      obtain ⟨x5, _, h⟩ := bdS h
      obtain ⟨_, _, h⟩ := bdS h
      exact hF.trans (ih h)
    · cases h; exact hF
set_option maxRecDepth 100000 in
theorem M_span_fr {a1 : Int32} {a2 : Int32} {a3 : Int32} {μ : Mem} {r : Int32} {μ' : Mem} (h : M_span a1 a2 a3 μ = some (r, μ')) : Fr [1332, 1333, 1340, 1341, 1342, 1343] μ μ' := by
  unfold M_span at h
  have hF : Fr [1332, 1333, 1340, 1341, 1342, 1343] μ μ := Fr.refl
  obtain ⟨_, _, h⟩ := bdS h
  rcases iteS h with h | h
  · cases h; exact hF
  · obtain ⟨_, _, h⟩ := bdS h
    rcases iteS h with h | h
    · cases h; exact hF
    · obtain ⟨⟨x3, μ4⟩, h1, h⟩ := bdS h
      replace hF := hF.trans ((M_isTold_fr h1).mono (by decide))
      rcases iteS h with h | h
      · cases h; exact hF
      · rcases iteS h with h | h
        · cases h; exact hF
        · obtain ⟨_, _, h⟩ := bdS h
          rcases iteS h with h | h
          · cases h; exact hF
          · obtain ⟨_, _, h⟩ := bdS h
            obtain ⟨⟨x7, μ8⟩, h1, h⟩ := bdS h
            replace hF := hF.trans ((M_span_l1_fr h1).mono (by decide))
            cases h; exact hF
set_option maxRecDepth 100000 in
theorem M_alike_l1_fr {v1 : Int32} {v2 : Int32} {μo : Mem} : ∀ {n : Nat} {v3 : Int32} {μ : Mem}, M_alike_l1 v1 v2 n v3 μ = some μo → Fr [1340, 1344] μ μo := by
  intro n
  induction n with
  | zero => intro v3 μ h; exact noS h
  | succ n ih =>
    intro v3 μ h
    replace h : M_alike_l1b v1 v2 (M_alike_l1 v1 v2 n) v3 μ = some μo := h
    unfold M_alike_l1b at h
    have hF : Fr [1340, 1344] μ μ := Fr.refl
    rcases iteS h with h | h
    · obtain ⟨μ1, h1, h⟩ := bdS h
      replace hF := fr_mWr (by decide) hF h1
      obtain ⟨_, _, h⟩ := bdS h
      exact hF.trans (ih h)
    · cases h; exact hF
set_option maxRecDepth 100000 in
theorem M_alike_l2_fr {v1 : Int32} {v2 : Int32} {o1 : Int32} {μo : Mem} : ∀ {n : Nat} {v3 : Int32} {v4 : Int32} {μ : Mem}, M_alike_l2 v1 v2 n v3 v4 μ = some (o1, μo) → Fr [1340, 1344] μ μo := by
  intro n
  induction n with
  | zero => intro v3 v4 μ h; exact noS h
  | succ n ih =>
    intro v3 v4 μ h
    replace h : M_alike_l2b v1 v2 (M_alike_l2 v1 v2 n) v3 v4 μ = some (o1, μo) := h
    unfold M_alike_l2b at h
    have hF : Fr [1340, 1344] μ μ := Fr.refl
    rcases iteS h with h | h
    · obtain ⟨_, _, h⟩ := bdS h
      obtain ⟨μ2, h1, h⟩ := bdS h
      replace hF := hF.trans ((M_lay_fr h1).mono (by decide))
      obtain ⟨_, _, h⟩ := bdS h
      obtain ⟨_, _, h⟩ := bdS h
      obtain ⟨μ5, h1, h⟩ := bdS h
      replace hF := fr_mWr (by decide) hF h1
      obtain ⟨_, _, h⟩ := bdS h
      obtain ⟨_, _, h⟩ := bdS h
      obtain ⟨_, _, h⟩ := bdS h
      obtain ⟨_, _, h⟩ := bdS h
      exact hF.trans (ih h)
    · cases h; exact hF
set_option maxRecDepth 100000 in
theorem M_alike_fr {a1 : Int32} {a2 : Int32} {μ : Mem} {r : Int32} {μ' : Mem} (h : M_alike a1 a2 μ = some (r, μ')) : Fr [1340, 1344] μ μ' := by
  unfold M_alike at h
  have hF : Fr [1340, 1344] μ μ := Fr.refl
  obtain ⟨μ1, h1, h⟩ := bdS h
  replace hF := hF.trans ((M_alike_l1_fr h1).mono (by decide))
  obtain ⟨⟨x2, μ3⟩, h1, h⟩ := bdS h
  replace hF := hF.trans ((M_alike_l2_fr h1).mono (by decide))
  cases h; exact hF
set_option maxRecDepth 100000 in
theorem M_shared_l1_fr {v1 : Int32} {o1 : Int32} {μo : Mem} : ∀ {n : Nat} {v2 : Int32} {v3 : Int32} {μ : Mem}, M_shared_l1 v1 n v2 v3 μ = some (o1, μo) → Fr [1332, 1333, 1340, 1341, 1342, 1343, 1344] μ μo := by
  intro n
  induction n with
  | zero => intro v2 v3 μ h; exact noS h
  | succ n ih =>
    intro v2 v3 μ h
    replace h : M_shared_l1b v1 (M_shared_l1 v1 n) v2 v3 μ = some (o1, μo) := h
    unfold M_shared_l1b at h
    have hF : Fr [1332, 1333, 1340, 1341, 1342, 1343, 1344] μ μ := Fr.refl
    obtain ⟨_, _, h⟩ := bdS h
    rcases iteS h with h | h
    · obtain ⟨⟨x2, μ3⟩, h1, h⟩ := bdS h
      replace hF := hF.trans ((M_alike_fr h1).mono (by decide))
      obtain ⟨x5, _, h⟩ := bdS h
      obtain ⟨_, _, h⟩ := bdS h
      obtain ⟨_, _, h⟩ := bdS h
      exact hF.trans (ih h)
    · cases h; exact hF
set_option maxRecDepth 100000 in
theorem M_shared_fr {a1 : Int32} {μ : Mem} {r : Int32} {μ' : Mem} (h : M_shared a1 μ = some (r, μ')) : Fr [1332, 1333, 1340, 1341, 1342, 1343, 1344] μ μ' := by
  unfold M_shared at h
  have hF : Fr [1332, 1333, 1340, 1341, 1342, 1343, 1344] μ μ := Fr.refl
  obtain ⟨⟨x1, μ2⟩, h1, h⟩ := bdS h
  replace hF := hF.trans ((M_isTold_fr h1).mono (by decide))
  rcases iteS h with h | h
  · cases h; exact hF
  · rcases iteS h with h | h
    · cases h; exact hF
    · obtain ⟨⟨x3, μ4⟩, h1, h⟩ := bdS h
      replace hF := hF.trans ((M_shared_l1_fr h1).mono (by decide))
      cases h; exact hF
set_option maxRecDepth 100000 in
theorem M_weigh_l1_fr {v1 : Int32} {o1 : Int32} {μo : Mem} : ∀ {n : Nat} {v2 : Int32} {v3 : Int32} {μ : Mem}, M_weigh_l1 v1 n v2 v3 μ = some (o1, μo) → Fr [1332, 1333, 1340, 1341, 1342, 1343, 1344] μ μo := by
  intro n
  induction n with
  | zero => intro v2 v3 μ h; exact noS h
  | succ n ih =>
    intro v2 v3 μ h
    replace h : M_weigh_l1b v1 (M_weigh_l1 v1 n) v2 v3 μ = some (o1, μo) := h
    unfold M_weigh_l1b at h
    have hF : Fr [1332, 1333, 1340, 1341, 1342, 1343, 1344] μ μ := Fr.refl
    obtain ⟨_, _, h⟩ := bdS h
    rcases iteS h with h | h
    · obtain ⟨⟨x2, μ3⟩, h1, h⟩ := bdS h
      replace hF := hF.trans ((M_alike_fr h1).mono (by decide))
      obtain ⟨⟨x4, μ5⟩, h1, h⟩ := bdS h
      replace hF := hF.trans ((M_alike_fr h1).mono (by decide))
      obtain ⟨x6, _, h⟩ := bdS h
      obtain ⟨_, _, h⟩ := bdS h
      exact hF.trans (ih h)
    · cases h; exact hF
set_option maxRecDepth 100000 in
theorem M_weigh_fr {a1 : Int32} {μ : Mem} {r : Int32} {μ' : Mem} (h : M_weigh a1 μ = some (r, μ')) : Fr [1332, 1333, 1340, 1341, 1342, 1343, 1344] μ μ' := by
  unfold M_weigh at h
  have hF : Fr [1332, 1333, 1340, 1341, 1342, 1343, 1344] μ μ := Fr.refl
  obtain ⟨⟨x1, μ2⟩, h1, h⟩ := bdS h
  replace hF := hF.trans ((M_isTold_fr h1).mono (by decide))
  rcases iteS h with h | h
  · cases h; exact hF
  · rcases iteS h with h | h
    · cases h; exact hF
    · obtain ⟨⟨x3, μ4⟩, h1, h⟩ := bdS h
      replace hF := hF.trans ((M_weigh_l1_fr h1).mono (by decide))
      obtain ⟨_, _, h⟩ := bdS h
      cases h; exact hF
set_option maxRecDepth 100000 in
theorem M_worth_fr {a1 : Int32} {a2 : Int32} {a3 : Int32} {μ : Mem} {r : Int32} {μ' : Mem} (h : M_worth a1 a2 a3 μ = some (r, μ')) : Fr [1332, 1333, 1340, 1341, 1342, 1343] μ μ' := by
  unfold M_worth at h
  have hF : Fr [1332, 1333, 1340, 1341, 1342, 1343] μ μ := Fr.refl
  obtain ⟨_, _, h⟩ := bdS h
  rcases iteS h with h | h
  · cases h; exact hF
  · obtain ⟨⟨x2, μ3⟩, h1, h⟩ := bdS h
    replace hF := hF.trans ((M_isTold_fr h1).mono (by decide))
    rcases iteS h with h | h
    · cases h; exact hF
    · obtain ⟨_, _, h⟩ := bdS h
      rcases iteS h with h | h
      · cases h; exact hF
      · obtain ⟨μ5, h1, h⟩ := bdS h
        replace hF := hF.trans ((M_go_fr h1).mono (by decide))
        obtain ⟨⟨x6, μ7⟩, h1, h⟩ := bdS h
        replace hF := hF.trans ((M_worthNow_fr h1).mono (by decide))
        cases h; exact hF
set_option maxRecDepth 100000 in
theorem M_range_l1_fr {v1 : Int32} {v2 : Int32} {v3 : Int32} {o1 : Int32} {μo : Mem} : ∀ {n : Nat} {v4 : Int32} {v5 : Int32} {μ : Mem}, M_range_l1 v1 v2 v3 n v4 v5 μ = some (o1, μo) → Fr [1332, 1333, 1340, 1341, 1342, 1343] μ μo := by
  intro n
  induction n with
  | zero => intro v4 v5 μ h; exact noS h
  | succ n ih =>
    intro v4 v5 μ h
    replace h : M_range_l1b v1 v2 v3 (M_range_l1 v1 v2 v3 n) v4 v5 μ = some (o1, μo) := h
    unfold M_range_l1b at h
    have hF : Fr [1332, 1333, 1340, 1341, 1342, 1343] μ μ := Fr.refl
    rcases iteS h with h | h
    · obtain ⟨μ1, h1, h⟩ := bdS h
      replace hF := hF.trans ((M_go_fr h1).mono (by decide))
      obtain ⟨⟨x2, μ3⟩, h1, h⟩ := bdS h
      replace hF := hF.trans ((M_worthNow_fr h1).mono (by decide))
      obtain ⟨x4, _, h⟩ := bdS h
      obtain ⟨_, _, h⟩ := bdS h
      exact hF.trans (ih h)
    · cases h; exact hF
set_option maxRecDepth 100000 in
theorem M_range_fr {a1 : Int32} {a2 : Int32} {a3 : Int32} {μ : Mem} {r : Int32} {μ' : Mem} (h : M_range a1 a2 a3 μ = some (r, μ')) : Fr [1332, 1333, 1340, 1341, 1342, 1343] μ μ' := by
  unfold M_range at h
  have hF : Fr [1332, 1333, 1340, 1341, 1342, 1343] μ μ := Fr.refl
  obtain ⟨_, _, h⟩ := bdS h
  rcases iteS h with h | h
  · cases h; exact hF
  · obtain ⟨_, _, h⟩ := bdS h
    rcases iteS h with h | h
    · cases h; exact hF
    · obtain ⟨⟨x3, μ4⟩, h1, h⟩ := bdS h
      replace hF := hF.trans ((M_isTold_fr h1).mono (by decide))
      rcases iteS h with h | h
      · cases h; exact hF
      · rcases iteS h with h | h
        · cases h; exact hF
        · obtain ⟨⟨x5, μ6⟩, h1, h⟩ := bdS h
          replace hF := hF.trans ((M_range_l1_fr h1).mono (by decide))
          cases h; exact hF
set_option maxRecDepth 100000 in
theorem M_trial_fr {a1 : Int32} {a2 : Int32} {a3 : Int32} {μ : Mem} {r : Int32} {μ' : Mem} (h : M_trial a1 a2 a3 μ = some (r, μ')) : Fr [1345, 1346, 1347, 1348] μ μ' := by
  unfold M_trial at h
  have hF : Fr [1345, 1346, 1347, 1348] μ μ := Fr.refl
  obtain ⟨_, _, h⟩ := bdS h
  rcases iteS h with h | h
  · cases h; exact hF
  · obtain ⟨_, _, h⟩ := bdS h
    rcases iteS h with h | h
    · cases h; exact hF
    · rcases iteS h with h | h
      · cases h; exact hF
      · obtain ⟨μ3, h1, h⟩ := bdS h
        replace hF := fr_mWr (by decide) hF h1
        obtain ⟨μ4, h1, h⟩ := bdS h
        replace hF := fr_mWr (by decide) hF h1
        obtain ⟨μ5, h1, h⟩ := bdS h
        replace hF := fr_mWz (by decide) hF h1
        obtain ⟨μ6, h1, h⟩ := bdS h
        replace hF := fr_mSI (by decide) hF h1
        cases h; exact hF
set_option maxRecDepth 100000 in
theorem M_stands_fr {a1 : Int32} {a2 : Int32} {a3 : Int32} {μ : Mem} {r : Int32} {μ' : Mem} (h : M_stands a1 a2 a3 μ = some (r, μ')) : Fr [1332, 1333, 1340, 1341, 1342, 1343] μ μ' := by
  unfold M_stands at h
  have hF : Fr [1332, 1333, 1340, 1341, 1342, 1343] μ μ := Fr.refl
  obtain ⟨_, _, h⟩ := bdS h
  rcases iteS h with h | h
  · cases h; exact hF
  · obtain ⟨⟨x2, μ3⟩, h1, h⟩ := bdS h
    replace hF := hF.trans ((M_isTold_fr h1).mono (by decide))
    rcases iteS h with h | h
    · cases h; exact hF
    · obtain ⟨_, _, h⟩ := bdS h
      rcases iteS h with h | h
      · cases h; exact hF
      · obtain ⟨μ5, h1, h⟩ := bdS h
        replace hF := hF.trans ((M_go_fr h1).mono (by decide))
        obtain ⟨⟨x6, μ7⟩, h1, h⟩ := bdS h
        replace hF := hF.trans ((M_worthNow_fr h1).mono (by decide))
        obtain ⟨_, _, h⟩ := bdS h
        cases h; exact hF
set_option maxRecDepth 100000 in
theorem M_stand_l1_fr {v1 : Int32} {v2 : Int32} {v3 : Int32} {o1 : Int32} {μo : Mem} : ∀ {n : Nat} {v4 : Int32} {v5 : Int32} {μ : Mem}, M_stand_l1 v1 v2 v3 n v4 v5 μ = some (o1, μo) → Fr [1332, 1333, 1340, 1341, 1342, 1343] μ μo := by
  intro n
  induction n with
  | zero => intro v4 v5 μ h; exact noS h
  | succ n ih =>
    intro v4 v5 μ h
    replace h : M_stand_l1b v1 v2 v3 (M_stand_l1 v1 v2 v3 n) v4 v5 μ = some (o1, μo) := h
    unfold M_stand_l1b at h
    have hF : Fr [1332, 1333, 1340, 1341, 1342, 1343] μ μ := Fr.refl
    rcases iteS h with h | h
    · obtain ⟨μ1, h1, h⟩ := bdS h
      replace hF := hF.trans ((M_go_fr h1).mono (by decide))
      obtain ⟨⟨x2, μ3⟩, h1, h⟩ := bdS h
      replace hF := hF.trans ((M_worthNow_fr h1).mono (by decide))
      obtain ⟨_, _, h⟩ := bdS h
      obtain ⟨x5, _, h⟩ := bdS h
      obtain ⟨_, _, h⟩ := bdS h
      obtain ⟨_, _, h⟩ := bdS h
      exact hF.trans (ih h)
    · cases h; exact hF
set_option maxRecDepth 100000 in
theorem M_stand_fr {a1 : Int32} {a2 : Int32} {a3 : Int32} {μ : Mem} {r : Int32} {μ' : Mem} (h : M_stand a1 a2 a3 μ = some (r, μ')) : Fr [1332, 1333, 1340, 1341, 1342, 1343] μ μ' := by
  unfold M_stand at h
  have hF : Fr [1332, 1333, 1340, 1341, 1342, 1343] μ μ := Fr.refl
  obtain ⟨_, _, h⟩ := bdS h
  rcases iteS h with h | h
  · cases h; exact hF
  · obtain ⟨_, _, h⟩ := bdS h
    rcases iteS h with h | h
    · cases h; exact hF
    · obtain ⟨⟨x3, μ4⟩, h1, h⟩ := bdS h
      replace hF := hF.trans ((M_isTold_fr h1).mono (by decide))
      rcases iteS h with h | h
      · cases h; exact hF
      · obtain ⟨⟨x5, μ6⟩, h1, h⟩ := bdS h
        replace hF := hF.trans ((M_stand_l1_fr h1).mono (by decide))
        cases h; exact hF
set_option maxRecDepth 100000 in
theorem M_book_fr {a1 : Int32} {μ : Mem} {r : Int32} {μ' : Mem} (h : M_book a1 μ = some (r, μ')) : Fr [1350, 1351, 1354] μ μ' := by
  unfold M_book at h
  have hF : Fr [1350, 1351, 1354] μ μ := Fr.refl
  obtain ⟨_, _, h⟩ := bdS h
  rcases iteS h with h | h
  · cases h; exact hF
  · rcases iteS h with h | h
    · cases h; exact hF
    · obtain ⟨μ2, h1, h⟩ := bdS h
      replace hF := fr_mWr (by decide) hF h1
      obtain ⟨μ3, h1, h⟩ := bdS h
      replace hF := fr_mWr (by decide) hF h1
      obtain ⟨μ4, h1, h⟩ := bdS h
      replace hF := fr_mSI (by decide) hF h1
      cases h; exact hF
set_option maxRecDepth 100000 in
theorem M_slip_fr {a1 : Int32} {a2 : Int32} {a3 : Int32} {μ : Mem} {r : Int32} {μ' : Mem} (h : M_slip a1 a2 a3 μ = some (r, μ')) : Fr [1349] μ μ' := by
  unfold M_slip at h
  have hF : Fr [1349] μ μ := Fr.refl
  obtain ⟨_, _, h⟩ := bdS h
  rcases iteS h with h | h
  · obtain ⟨_, _, h⟩ := bdS h
    cases h; exact hF
  · obtain ⟨_, _, h⟩ := bdS h
    rcases iteS h with h | h
    · obtain ⟨_, _, h⟩ := bdS h
      cases h; exact hF
    · rcases iteS h with h | h
      · obtain ⟨_, _, h⟩ := bdS h
        cases h; exact hF
      · obtain ⟨_, _, h⟩ := bdS h
        rcases iteS h with h | h
        · obtain ⟨_, _, h⟩ := bdS h
          cases h; exact hF
        · obtain ⟨μ4, h1, h⟩ := bdS h
          replace hF := fr_mWr (by decide) hF h1
          obtain ⟨_, _, h⟩ := bdS h
          cases h; exact hF
set_option maxRecDepth 100000 in
theorem M_reads_fr {a1 : Int32} {a2 : Int32} {μ : Mem} {r : Int32} {μ' : Mem} (h : M_reads a1 a2 μ = some (r, μ')) : Fr [1351] μ μ' := by
  unfold M_reads at h
  have hF : Fr [1351] μ μ := Fr.refl
  obtain ⟨_, _, h⟩ := bdS h
  rcases iteS h with h | h
  · obtain ⟨_, _, h⟩ := bdS h
    cases h; exact hF
  · obtain ⟨_, _, h⟩ := bdS h
    rcases iteS h with h | h
    · obtain ⟨_, _, h⟩ := bdS h
      cases h; exact hF
    · obtain ⟨μ3, h1, h⟩ := bdS h
      replace hF := fr_mWr (by decide) hF h1
      obtain ⟨_, _, h⟩ := bdS h
      cases h; exact hF
set_option maxRecDepth 100000 in
theorem M_hang_fr {a1 : Int32} {a2 : Int32} {a3 : Int32} {μ : Mem} {μ' : Mem} (h : M_hang a1 a2 a3 μ = some μ') : Fr [1352, 1353] μ μ' := by
  unfold M_hang at h
  have hF : Fr [1352, 1353] μ μ := Fr.refl
  obtain ⟨_, _, h⟩ := bdS h
  obtain ⟨_, _, h⟩ := bdS h
  obtain ⟨μ4, h1, h⟩ := bdS h
  replace hF := fr_mWr (by decide) hF h1
  obtain ⟨_, _, h⟩ := bdS h
  obtain ⟨μ6, h1, h⟩ := bdS h
  replace hF := fr_mWl (by decide) hF h1
  cases h; exact hF
set_option maxRecDepth 100000 in
theorem M_price_l1_fr {v1 : Int32} {v2 : Int32} {μo : Mem} : ∀ {n : Nat} {v3 : Int32} {μ : Mem}, M_price_l1 v1 v2 n v3 μ = some μo → Fr [1352, 1353] μ μo := by
  intro n
  induction n with
  | zero => intro v3 μ h; exact noS h
  | succ n ih =>
    intro v3 μ h
    replace h : M_price_l1b v1 v2 (M_price_l1 v1 v2 n) v3 μ = some μo := h
    unfold M_price_l1b at h
    have hF : Fr [1352, 1353] μ μ := Fr.refl
    rcases iteS h with h | h
    · obtain ⟨μ1, h1, h⟩ := bdS h
      replace hF := fr_mWr (by decide) hF h1
      obtain ⟨μ2, h1, h⟩ := bdS h
      replace hF := fr_mWl (by decide) hF h1
      obtain ⟨_, _, h⟩ := bdS h
      exact hF.trans (ih h)
    · cases h; exact hF
set_option maxRecDepth 100000 in
theorem M_price_l3_fr {v1 : Int32} {v2 : Int32} {v3 : Int32} {μo : Mem} : ∀ {n : Nat} {v4 : Int32} {μ : Mem}, M_price_l3 v1 v2 v3 n v4 μ = some μo → Fr [1352, 1353] μ μo := by
  intro n
  induction n with
  | zero => intro v4 μ h; exact noS h
  | succ n ih =>
    intro v4 μ h
    replace h : M_price_l3b v1 v2 v3 (M_price_l3 v1 v2 v3 n) v4 μ = some μo := h
    unfold M_price_l3b at h
    have hF : Fr [1352, 1353] μ μ := Fr.refl
    rcases iteS h with h | h
    · obtain ⟨_, _, h⟩ := bdS h
      obtain ⟨x3, _, h⟩ := bdS h
      obtain ⟨x5, _, h⟩ := bdS h
      obtain ⟨μ6, h1, h⟩ := bdS h
      replace hF := fr_mWr (by decide) hF h1
      obtain ⟨_, _, h⟩ := bdS h
      exact hF.trans (ih h)
    · cases h; exact hF
set_option maxRecDepth 100000 in
theorem M_price_l4_fr {v1 : Int32} {v2 : Int32} {v3 : Int32} {v4 : Int32} {μo : Mem} : ∀ {n : Nat} {v5 : Int32} {μ : Mem}, M_price_l4 v1 v2 v3 v4 n v5 μ = some μo → Fr [1352, 1353] μ μo := by
  intro n
  induction n with
  | zero => intro v5 μ h; exact noS h
  | succ n ih =>
    intro v5 μ h
    replace h : M_price_l4b v1 v2 v3 v4 (M_price_l4 v1 v2 v3 v4 n) v5 μ = some μo := h
    unfold M_price_l4b at h
    have hF : Fr [1352, 1353] μ μ := Fr.refl
    rcases iteS h with h | h
    · obtain ⟨μ1, h1, h⟩ := bdS h
      replace hF := hF.trans ((M_hang_fr h1).mono (by decide))
      obtain ⟨_, _, h⟩ := bdS h
      exact hF.trans (ih h)
    · cases h; exact hF
set_option maxRecDepth 100000 in
theorem M_price_l2_fr {v1 : Int32} {v2 : Int32} {μo : Mem} : ∀ {n : Nat} {v3 : Int32} {μ : Mem}, M_price_l2 v1 v2 n v3 μ = some μo → Fr [1352, 1353] μ μo := by
  intro n
  induction n with
  | zero => intro v3 μ h; exact noS h
  | succ n ih =>
    intro v3 μ h
    replace h : M_price_l2b v1 v2 (M_price_l2 v1 v2 n) v3 μ = some μo := h
    unfold M_price_l2b at h
    have hF : Fr [1352, 1353] μ μ := Fr.refl
    rcases iteS h with h | h
    · cases h; exact hF
    · obtain ⟨μ1, h1, h⟩ := bdS h
      replace hF := hF.trans ((M_price_l3_fr h1).mono (by decide))
      obtain ⟨_, _, h⟩ := bdS h
      obtain ⟨x4, _, h⟩ := bdS h
      obtain ⟨μ5, h1, h⟩ := bdS h
      replace hF := hF.trans ((M_price_l4_fr h1).mono (by decide))
      obtain ⟨_, _, h⟩ := bdS h
      exact hF.trans (ih h)
set_option maxRecDepth 100000 in
theorem M_price_fr {a1 : Int32} {a2 : Int32} {μ : Mem} {μ' : Mem} (h : M_price a1 a2 μ = some μ') : Fr [1352, 1353] μ μ' := by
  unfold M_price at h
  have hF : Fr [1352, 1353] μ μ := Fr.refl
  obtain ⟨μ1, h1, h⟩ := bdS h
  replace hF := hF.trans ((M_price_l1_fr h1).mono (by decide))
  obtain ⟨_, _, h⟩ := bdS h
  obtain ⟨μ3, h1, h⟩ := bdS h
  replace hF := hF.trans ((M_price_l2_fr h1).mono (by decide))
  cases h; exact hF
set_option maxRecDepth 100000 in
theorem M_cost_fr {a1 : Int32} {μ : Mem} {r : Int32} {μ' : Mem} (h : M_cost a1 μ = some (r, μ')) : Fr [1352, 1353] μ μ' := by
  unfold M_cost at h
  have hF : Fr [1352, 1353] μ μ := Fr.refl
  obtain ⟨_, _, h⟩ := bdS h
  rcases iteS h with h | h
  · cases h; exact hF
  · obtain ⟨μ2, h1, h⟩ := bdS h
    replace hF := hF.trans ((M_price_fr h1).mono (by decide))
    obtain ⟨_, _, h⟩ := bdS h
    cases h; exact hF
set_option maxRecDepth 100000 in
theorem M_ways_fr {a1 : Int32} {μ : Mem} {r : Int64} {μ' : Mem} (h : M_ways a1 μ = some (r, μ')) : Fr [1352, 1353] μ μ' := by
  unfold M_ways at h
  have hF : Fr [1352, 1353] μ μ := Fr.refl
  obtain ⟨_, _, h⟩ := bdS h
  rcases iteS h with h | h
  · cases h; exact hF
  · obtain ⟨μ2, h1, h⟩ := bdS h
    replace hF := hF.trans ((M_price_fr h1).mono (by decide))
    obtain ⟨_, _, h⟩ := bdS h
    cases h; exact hF
set_option maxRecDepth 100000 in
theorem M_first_fr {μ : Mem} {r : Int32} {μ' : Mem} (h : M_first μ = some (r, μ')) : Fr [1352, 1353] μ μ' := by
  unfold M_first at h
  have hF : Fr [1352, 1353] μ μ := Fr.refl
  obtain ⟨μ1, h1, h⟩ := bdS h
  replace hF := hF.trans ((M_price_fr h1).mono (by decide))
  obtain ⟨_, _, h⟩ := bdS h
  cases h; exact hF
set_option maxRecDepth 100000 in
theorem M_could_l1_fr {v1 : Int32} {v2 : Int32} {o1 : Int32} {μo : Mem} : ∀ {n : Nat} {v3 : Int32} {v4 : Int32} {μ : Mem}, M_could_l1 v1 v2 n v3 v4 μ = some (o1, μo) → Fr [1352, 1353] μ μo := by
  intro n
  induction n with
  | zero => intro v3 v4 μ h; exact noS h
  | succ n ih =>
    intro v3 v4 μ h
    replace h : M_could_l1b v1 v2 (M_could_l1 v1 v2 n) v3 v4 μ = some (o1, μo) := h
    unfold M_could_l1b at h
    have hF : Fr [1352, 1353] μ μ := Fr.refl
    rcases iteS h with h | h
    · obtain ⟨μ1, h1, h⟩ := bdS h
      replace hF := hF.trans ((M_price_fr h1).mono (by decide))
      obtain ⟨_, _, h⟩ := bdS h
      obtain ⟨_, _, h⟩ := bdS h
      obtain ⟨x4, _, h⟩ := bdS h
      obtain ⟨_, _, h⟩ := bdS h
      obtain ⟨_, _, h⟩ := bdS h
      exact hF.trans (ih h)
    · cases h; exact hF
set_option maxRecDepth 100000 in
theorem M_could_fr {a1 : Int32} {μ : Mem} {r : Int32} {μ' : Mem} (h : M_could a1 μ = some (r, μ')) : Fr [1352, 1353] μ μ' := by
  unfold M_could at h
  have hF : Fr [1352, 1353] μ μ := Fr.refl
  obtain ⟨_, _, h⟩ := bdS h
  rcases iteS h with h | h
  · cases h; exact hF
  · obtain ⟨μ2, h1, h⟩ := bdS h
    replace hF := hF.trans ((M_price_fr h1).mono (by decide))
    obtain ⟨_, _, h⟩ := bdS h
    obtain ⟨_, _, h⟩ := bdS h
    obtain ⟨⟨x5, μ6⟩, h1, h⟩ := bdS h
    replace hF := hF.trans ((M_could_l1_fr h1).mono (by decide))
    cases h; exact hF
set_option maxRecDepth 100000 in
theorem M_day_fr {a1 : Int32} {a2 : Int32} {μ : Mem} {r : Int32} {μ' : Mem} (h : M_day a1 a2 μ = some (r, μ')) : Fr [1355, 1356, 1358] μ μ' := by
  unfold M_day at h
  have hF : Fr [1355, 1356, 1358] μ μ := Fr.refl
  obtain ⟨_, _, h⟩ := bdS h
  rcases iteS h with h | h
  · cases h; exact hF
  · rcases iteS h with h | h
    · cases h; exact hF
    · obtain ⟨μ2, h1, h⟩ := bdS h
      replace hF := fr_mWr (by decide) hF h1
      obtain ⟨μ3, h1, h⟩ := bdS h
      replace hF := fr_mWz (by decide) hF h1
      obtain ⟨μ4, h1, h⟩ := bdS h
      replace hF := fr_mSI (by decide) hF h1
      cases h; exact hF
set_option maxRecDepth 100000 in
theorem M_bought_fr {a1 : Int32} {a2 : Int32} {a3 : Int32} {μ : Mem} {r : Int32} {μ' : Mem} (h : M_bought a1 a2 a3 μ = some (r, μ')) : Fr [1357] μ μ' := by
  unfold M_bought at h
  have hF : Fr [1357] μ μ := Fr.refl
  obtain ⟨_, _, h⟩ := bdS h
  rcases iteS h with h | h
  · obtain ⟨_, _, h⟩ := bdS h
    cases h; exact hF
  · obtain ⟨_, _, h⟩ := bdS h
    rcases iteS h with h | h
    · obtain ⟨_, _, h⟩ := bdS h
      cases h; exact hF
    · obtain ⟨_, _, h⟩ := bdS h
      rcases iteS h with h | h
      · obtain ⟨_, _, h⟩ := bdS h
        cases h; exact hF
      · obtain ⟨μ4, h1, h⟩ := bdS h
        replace hF := fr_mWr (by decide) hF h1
        obtain ⟨_, _, h⟩ := bdS h
        cases h; exact hF
set_option maxRecDepth 100000 in
theorem M_mayBe_fr {a1 : Int32} {a2 : Int32} {μ : Mem} {r : Int32} {μ' : Mem} (h : M_mayBe a1 a2 μ = some (r, μ')) : Fr [1332, 1333, 1340, 1341, 1342, 1343] μ μ' := by
  unfold M_mayBe at h
  have hF : Fr [1332, 1333, 1340, 1341, 1342, 1343] μ μ := Fr.refl
  obtain ⟨_, _, h⟩ := bdS h
  obtain ⟨_, _, h⟩ := bdS h
  obtain ⟨_, _, h⟩ := bdS h
  rcases iteS h with h | h
  · obtain ⟨_, _, h⟩ := bdS h
    cases h; exact hF
  · obtain ⟨_, _, h⟩ := bdS h
    obtain ⟨k6, hkk6, h⟩ := kE h
    have Jk6 : Fr [1332, 1333, 1340, 1341, 1342, 1343] μ μ → k6 () = some (r, μ') → Fr [1332, 1333, 1340, 1341, 1342, 1343] μ μ' := by
      clear h hF
      intro hF h
      rw [hkk6] at h
      obtain ⟨⟨x7, μ8⟩, h1, h⟩ := bdS h
      replace hF := hF.trans ((M_findDishes_fr h1).mono (by decide))
      rcases iteS h with h | h
      · obtain ⟨_, _, h⟩ := bdS h
        cases h; exact hF
      · rcases iteS h with h | h
        · obtain ⟨_, _, h⟩ := bdS h
          cases h; exact hF
        · obtain ⟨_, _, h⟩ := bdS h
          cases h; exact hF
    rcases iteS h with h | h
    · exact Jk6 hF h
    · obtain ⟨_, _, h⟩ := bdS h
      rcases iteS h with h | h
      · exact Jk6 hF h
      · obtain ⟨_, _, h⟩ := bdS h
        cases h; exact hF
set_option maxRecDepth 100000 in
theorem M_may_fr {a1 : Int32} {a2 : Int32} {μ : Mem} {r : Int32} {μ' : Mem} (h : M_may a1 a2 μ = some (r, μ')) : Fr [1332, 1333, 1340, 1341, 1342, 1343] μ μ' := by
  unfold M_may at h
  have hF : Fr [1332, 1333, 1340, 1341, 1342, 1343] μ μ := Fr.refl
  obtain ⟨_, _, h⟩ := bdS h
  rcases iteS h with h | h
  · cases h; exact hF
  · obtain ⟨_, _, h⟩ := bdS h
    rcases iteS h with h | h
    · cases h; exact hF
    · obtain ⟨⟨x3, μ4⟩, h1, h⟩ := bdS h
      replace hF := hF.trans ((M_mayBe_fr h1).mono (by decide))
      rcases iteS h with h | h
      · cases h; exact hF
      · cases h; exact hF
set_option maxRecDepth 100000 in
theorem M_layMenu_l2_fr {v1 : Int32} {v2 : Int32} {v3 : Int32} {v4 : Int32} {μo : Mem} : ∀ {n : Nat} {v5 : Int32} {μ : Mem}, M_layMenu_l2 v1 v2 v3 v4 n v5 μ = some μo → Fr [1332, 1333, 1340, 1341, 1342, 1343, 1359, 1360, 1361, 1364, 1365] μ μo := by
  intro n
  induction n with
  | zero => intro v5 μ h; exact noS h
  | succ n ih =>
    intro v5 μ h
    replace h : M_layMenu_l2b v1 v2 v3 v4 (M_layMenu_l2 v1 v2 v3 v4 n) v5 μ = some μo := h
    unfold M_layMenu_l2b at h
    have hF : Fr [1332, 1333, 1340, 1341, 1342, 1343, 1359, 1360, 1361, 1364, 1365] μ μ := Fr.refl
    rcases iteS h with h | h
    · obtain ⟨μ1, h1, h⟩ := bdS h
      replace hF := fr_mWr (by decide) hF h1
      obtain ⟨_, _, h⟩ := bdS h
      exact hF.trans (ih h)
    · cases h; exact hF
set_option maxRecDepth 100000 in
theorem M_layMenu_l3_fr {v1 : Int32} {v2 : Int32} {v3 : Int32} {v4 : Int32} {μo : Mem} : ∀ {n : Nat} {v5 : Int32} {μ : Mem}, M_layMenu_l3 v1 v2 v3 v4 n v5 μ = some μo → Fr [1332, 1333, 1340, 1341, 1342, 1343, 1359, 1360, 1361, 1364, 1365] μ μo := by
  intro n
  induction n with
  | zero => intro v5 μ h; exact noS h
  | succ n ih =>
    intro v5 μ h
    replace h : M_layMenu_l3b v1 v2 v3 v4 (M_layMenu_l3 v1 v2 v3 v4 n) v5 μ = some μo := h
    unfold M_layMenu_l3b at h
    have hF : Fr [1332, 1333, 1340, 1341, 1342, 1343, 1359, 1360, 1361, 1364, 1365] μ μ := Fr.refl
    obtain ⟨_, _, h⟩ := bdS h
    rcases iteS h with h | h
    · obtain ⟨_, _, h⟩ := bdS h
      obtain ⟨_, _, h⟩ := bdS h
      obtain ⟨μ4, h1, h⟩ := bdS h
      replace hF := fr_mWr (by decide) hF h1
      obtain ⟨_, _, h⟩ := bdS h
      exact hF.trans (ih h)
    · cases h; exact hF
set_option maxRecDepth 100000 in
theorem M_layMenu_l1_fr {v1 : Int32} {v2 : Int32} {μo : Mem} : ∀ {n : Nat} {v3 : Int32} {μ : Mem}, M_layMenu_l1 v1 v2 n v3 μ = some μo → Fr [1332, 1333, 1340, 1341, 1342, 1343, 1359, 1360, 1361, 1364, 1365] μ μo := by
  intro n
  induction n with
  | zero => intro v3 μ h; exact noS h
  | succ n ih =>
    intro v3 μ h
    replace h : M_layMenu_l1b v1 v2 (M_layMenu_l1 v1 v2 n) v3 μ = some μo := h
    unfold M_layMenu_l1b at h
    have hF : Fr [1332, 1333, 1340, 1341, 1342, 1343, 1359, 1360, 1361, 1364, 1365] μ μ := Fr.refl
    rcases iteS h with h | h
    · obtain ⟨_, _, h⟩ := bdS h
      obtain ⟨μ16, hj, h⟩ := bdS h
      replace hF : Fr [1332, 1333, 1340, 1341, 1342, 1343, 1359, 1360, 1361, 1364, 1365] μ μ16 := by
        clear h
        replace h := hj
        clear hj
        rcases iteS h with h | h
        · cases h; exact hF
        · obtain ⟨_, _, h⟩ := bdS h
          obtain ⟨μ3, h1, h⟩ := bdS h
          replace hF := fr_mWr (by decide) hF h1
          obtain ⟨⟨x4, μ5⟩, h1, h⟩ := bdS h
          replace hF := hF.trans ((M_mayBe_fr h1).mono (by decide))
          obtain ⟨μ6, h1, h⟩ := bdS h
          replace hF := fr_mWz (by decide) hF h1
          obtain ⟨_, _, h⟩ := bdS h
          obtain ⟨μ8, h1, h⟩ := bdS h
          replace hF := fr_mSI (by decide) hF h1
          obtain ⟨μ9, h1, h⟩ := bdS h
          replace hF := hF.trans ((M_layMenu_l2_fr h1).mono (by decide))
          obtain ⟨_, _, h⟩ := bdS h
          obtain ⟨μ14, hj, h⟩ := bdS h
          replace hF : Fr [1332, 1333, 1340, 1341, 1342, 1343, 1359, 1360, 1361, 1364, 1365] μ μ14 := by
            clear h
            replace h := hj
            clear hj
            rcases iteS h with h | h
            · cases h; exact hF
            · obtain ⟨_, _, h⟩ := bdS h
              obtain ⟨μ12, h1, h⟩ := bdS h
              replace hF := hF.trans ((M_lay_fr h1).mono (by decide))
              obtain ⟨μ13, h1, h⟩ := bdS h
              replace hF := hF.trans ((M_layMenu_l3_fr h1).mono (by decide))
              cases h; exact hF
          obtain ⟨μ15, h1, h⟩ := bdS h
          replace hF := fr_mSI (by decide) hF h1
          cases h; exact hF
      obtain ⟨_, _, h⟩ := bdS h
      exact hF.trans (ih h)
    · cases h; exact hF
set_option maxRecDepth 100000 in
theorem M_layMenu_fr {a1 : Int32} {a2 : Int32} {μ : Mem} {r : Int32} {μ' : Mem} (h : M_layMenu a1 a2 μ = some (r, μ')) : Fr [1332, 1333, 1340, 1341, 1342, 1343, 1359, 1360, 1361, 1364, 1365] μ μ' := by
  unfold M_layMenu at h
  have hF : Fr [1332, 1333, 1340, 1341, 1342, 1343, 1359, 1360, 1361, 1364, 1365] μ μ := Fr.refl
  obtain ⟨_, _, h⟩ := bdS h
  rcases iteS h with h | h
  · obtain ⟨_, _, h⟩ := bdS h
    cases h; exact hF
  · rcases iteS h with h | h
    · rcases iteS h with h | h
      · obtain ⟨_, _, h⟩ := bdS h
        rcases iteS h with h | h
        · obtain ⟨_, _, h⟩ := bdS h
          cases h; exact hF
        · obtain ⟨μ3, h1, h⟩ := bdS h
          replace hF := fr_mSI (by decide) hF h1
          obtain ⟨μ4, h1, h⟩ := bdS h
          replace hF := fr_mSI (by decide) hF h1
          obtain ⟨μ5, h1, h⟩ := bdS h
          replace hF := hF.trans ((M_layMenu_l1_fr h1).mono (by decide))
          obtain ⟨_, _, h⟩ := bdS h
          cases h; exact hF
      · obtain ⟨_, _, h⟩ := bdS h
        cases h; exact hF
    · obtain ⟨_, _, h⟩ := bdS h
      cases h; exact hF
set_option maxRecDepth 100000 in
theorem M_countMenu_l1_fr {o1 : Int32} {o2 : Int32} {μo : Mem} : ∀ {n : Nat} {v1 : Int32} {v2 : Int32} {v3 : Int32} {μ : Mem}, M_countMenu_l1 n v1 v2 v3 μ = some (o1, o2, μo) → Fr [1363, 1366, 1367, 1368, 1369, 1370, 1373, 1374, 1375, 1376] μ μo := by
  intro n
  induction n with
  | zero => intro v1 v2 v3 μ h; exact noS h
  | succ n ih =>
    intro v1 v2 v3 μ h
    replace h : M_countMenu_l1b (M_countMenu_l1 n) v1 v2 v3 μ = some (o1, o2, μo) := h
    unfold M_countMenu_l1b at h
    have hF : Fr [1363, 1366, 1367, 1368, 1369, 1370, 1373, 1374, 1375, 1376] μ μ := Fr.refl
    rcases iteS h with h | h
    · obtain ⟨_, _, h⟩ := bdS h
      obtain ⟨x3, _, h⟩ := bdS h
      obtain ⟨_, _, h⟩ := bdS h
      obtain ⟨_, _, h⟩ := bdS h
      obtain ⟨_, _, h⟩ := bdS h
      obtain ⟨x9, _, h⟩ := bdS h
      obtain ⟨μ10, h1, h⟩ := bdS h
      replace hF := fr_mWr (by decide) hF h1
      obtain ⟨_, _, h⟩ := bdS h
      exact hF.trans (ih h)
    · cases h; exact hF
set_option maxRecDepth 100000 in
theorem M_countMenu_fr {μ : Mem} {μ' : Mem} (h : M_countMenu μ = some μ') : Fr [1363, 1366, 1367, 1368, 1369, 1370, 1373, 1374, 1375, 1376] μ μ' := by
  unfold M_countMenu at h
  have hF : Fr [1363, 1366, 1367, 1368, 1369, 1370, 1373, 1374, 1375, 1376] μ μ := Fr.refl
  obtain ⟨⟨x1, x2, μ3⟩, h1, h⟩ := bdS h
  replace hF := hF.trans ((M_countMenu_l1_fr h1).mono (by decide))
  obtain ⟨x4, _, h⟩ := bdS h
  obtain ⟨μ5, h1, h⟩ := bdS h
  replace hF := fr_mSI (by decide) hF h1
  obtain ⟨μ6, h1, h⟩ := bdS h
  replace hF := fr_mSI (by decide) hF h1
  obtain ⟨_, _, h⟩ := bdS h
  obtain ⟨x8, _, h⟩ := bdS h
  obtain ⟨μ9, h1, h⟩ := bdS h
  replace hF := fr_mSI (by decide) hF h1
  obtain ⟨μ16, hj, h⟩ := bdS h
  replace hF : Fr [1363, 1366, 1367, 1368, 1369, 1370, 1373, 1374, 1375, 1376] μ μ16 := by
    clear h
    replace h := hj
    clear hj
    rcases iteS h with h | h
    · obtain ⟨μ10, h1, h⟩ := bdS h
      replace hF := fr_mSI (by decide) hF h1
      obtain ⟨μ11, h1, h⟩ := bdS h
      replace hF := fr_mSI (by decide) hF h1
      obtain ⟨μ12, h1, h⟩ := bdS h
      replace hF := fr_mSI (by decide) hF h1
      cases h; exact hF
    · rcases iteS h with h | h
      · obtain ⟨μ13, h1, h⟩ := bdS h
        replace hF := fr_mSI (by decide) hF h1
        obtain ⟨μ14, h1, h⟩ := bdS h
        replace hF := fr_mSI (by decide) hF h1
        obtain ⟨μ15, h1, h⟩ := bdS h
        replace hF := fr_mSI (by decide) hF h1
        cases h; exact hF
      · cases h; exact hF
  obtain ⟨x17, _, h⟩ := bdS h
  obtain ⟨μ18, h1, h⟩ := bdS h
  replace hF := fr_mSI (by decide) hF h1
  obtain ⟨x19, _, h⟩ := bdS h
  obtain ⟨μ20, h1, h⟩ := bdS h
  replace hF := fr_mSI (by decide) hF h1
  obtain ⟨μ21, h1, h⟩ := bdS h
  replace hF := fr_mSI (by decide) hF h1
  obtain ⟨μ22, h1, h⟩ := bdS h
  replace hF := fr_mSI (by decide) hF h1
  cases h; exact hF
set_option maxRecDepth 100000 in
theorem M_seek_l1_fr {r_M_seek : Int32 → Int32 → Int32 → Mem → Option Mem} (fh_M_seek : ∀ {a1 : Int32} {a2 : Int32} {a3 : Int32} {μ : Mem} {μ' : Mem}, r_M_seek a1 a2 a3 μ = some μ' → Fr [1362, 1363, 1366, 1367, 1368, 1369, 1370, 1373, 1374, 1375, 1376] μ μ') {v1 : Int32} {v2 : Int32} {v3 : Int32} {μo : Mem} : ∀ {n : Nat} {v4 : Int32} {μ : Mem}, M_seek_l1 r_M_seek v1 v2 v3 n v4 μ = some μo → Fr [1362, 1363, 1366, 1367, 1368, 1369, 1370, 1373, 1374, 1375, 1376] μ μo := by
  intro n
  induction n with
  | zero => intro v4 μ h; exact noS h
  | succ n ih =>
    intro v4 μ h
    replace h : M_seek_l1b r_M_seek v1 v2 v3 (M_seek_l1 r_M_seek v1 v2 v3 n) v4 μ = some μo := h
    unfold M_seek_l1b at h
    have hF : Fr [1362, 1363, 1366, 1367, 1368, 1369, 1370, 1373, 1374, 1375, 1376] μ μ := Fr.refl
    obtain ⟨_, _, h⟩ := bdS h
    obtain ⟨x2, _, h⟩ := bdS h
    rcases iteS h with h | h
    · cases h; exact hF
    · obtain ⟨μ3, h1, h⟩ := bdS h
      replace hF := fr_mWr (by decide) hF h1
      obtain ⟨μ4, h1, h⟩ := bdS h
      replace hF := hF.trans ((fh_M_seek h1).mono (by decide))
      obtain ⟨_, _, h⟩ := bdS h
      exact hF.trans (ih h)
set_option maxRecDepth 100000 in
theorem M_seek_B_fr {r_M_seek : Int32 → Int32 → Int32 → Mem → Option Mem} (fh_M_seek : ∀ {a1 : Int32} {a2 : Int32} {a3 : Int32} {μ : Mem} {μ' : Mem}, r_M_seek a1 a2 a3 μ = some μ' → Fr [1362, 1363, 1366, 1367, 1368, 1369, 1370, 1373, 1374, 1375, 1376] μ μ') {a1 : Int32} {a2 : Int32} {a3 : Int32} {μ : Mem} {μ' : Mem} (h : M_seek_B r_M_seek a1 a2 a3 μ = some μ') : Fr [1362, 1363, 1366, 1367, 1368, 1369, 1370, 1373, 1374, 1375, 1376] μ μ' := by
  unfold M_seek_B at h
  have hF : Fr [1362, 1363, 1366, 1367, 1368, 1369, 1370, 1373, 1374, 1375, 1376] μ μ := Fr.refl
  rcases iteS h with h | h
  · obtain ⟨_, _, h⟩ := bdS h
    rcases iteS h with h | h
    · cases h; exact hF
    · obtain ⟨μ3, h1, h⟩ := bdS h
      replace hF := hF.trans ((M_countMenu_fr h1).mono (by decide))
      cases h; exact hF
  · obtain ⟨μ1, h1, h⟩ := bdS h
    replace hF := hF.trans ((M_seek_l1_fr fh_M_seek h1).mono (by decide))
    cases h; exact hF
theorem G_M_seek_fr : ∀ n : Nat, (∀ {a1 : Int32} {a2 : Int32} {a3 : Int32} {μ : Mem} {μ' : Mem}, M_seek n a1 a2 a3 μ = some μ' → Fr [1362, 1363, 1366, 1367, 1368, 1369, 1370, 1373, 1374, 1375, 1376] μ μ') := by
  intro n
  induction n with
  | zero => exact fun h => noS h
  | succ n ih =>
    have fh_M_seek := @ih
    · intro a1 a2 a3 μ μ' h
      rw [M_seek_s] at h
      exact M_seek_B_fr fh_M_seek h

theorem M_seek_fr {n : Nat} {a1 : Int32} {a2 : Int32} {a3 : Int32} {μ : Mem} {μ' : Mem} (h : M_seek n a1 a2 a3 μ = some μ') : Fr [1362, 1363, 1366, 1367, 1368, 1369, 1370, 1373, 1374, 1375, 1376] μ μ' := (G_M_seek_fr n) h
set_option maxRecDepth 100000 in
theorem M_findMenus_fr {a1 : Int32} {a2 : Int32} {a3 : Int32} {μ : Mem} {μ' : Mem} (h : M_findMenus a1 a2 a3 μ = some μ') : Fr [1362, 1363, 1366, 1367, 1368, 1369, 1370, 1371, 1372, 1373, 1374, 1375, 1376] μ μ' := by
  unfold M_findMenus at h
  have hF : Fr [1362, 1363, 1366, 1367, 1368, 1369, 1370, 1371, 1372, 1373, 1374, 1375, 1376] μ μ := Fr.refl
  obtain ⟨μ1, h1, h⟩ := bdS h
  replace hF := fr_mSI (by decide) hF h1
  obtain ⟨μ2, h1, h⟩ := bdS h
  replace hF := fr_mSI (by decide) hF h1
  obtain ⟨μ3, h1, h⟩ := bdS h
  replace hF := fr_mSI (by decide) hF h1
  obtain ⟨μ4, h1, h⟩ := bdS h
  replace hF := fr_mSI (by decide) hF h1
  obtain ⟨μ5, h1, h⟩ := bdS h
  replace hF := fr_mSI (by decide) hF h1
  obtain ⟨μ6, h1, h⟩ := bdS h
  replace hF := fr_mSI (by decide) hF h1
  obtain ⟨μ7, h1, h⟩ := bdS h
  replace hF := fr_mSI (by decide) hF h1
  obtain ⟨μ8, h1, h⟩ := bdS h
  replace hF := hF.trans ((M_seek_fr h1).mono (by decide))
  cases h; exact hF
set_option maxRecDepth 100000 in
theorem M_menu_fr {a1 : Int32} {a2 : Int32} {a3 : Int32} {a4 : Int32} {μ : Mem} {r : Int32} {μ' : Mem} (h : M_menu a1 a2 a3 a4 μ = some (r, μ')) : Fr [1332, 1333, 1340, 1341, 1342, 1343, 1359, 1360, 1361, 1362, 1363, 1364, 1365, 1366, 1367, 1368, 1369, 1370, 1371, 1372, 1373, 1374, 1375, 1376] μ μ' := by
  unfold M_menu at h
  have hF : Fr [1332, 1333, 1340, 1341, 1342, 1343, 1359, 1360, 1361, 1362, 1363, 1364, 1365, 1366, 1367, 1368, 1369, 1370, 1371, 1372, 1373, 1374, 1375, 1376] μ μ := Fr.refl
  obtain ⟨_, _, h⟩ := bdS h
  rcases iteS h with h | h
  · cases h; exact hF
  · obtain ⟨_, _, h⟩ := bdS h
    rcases iteS h with h | h
    · cases h; exact hF
    · obtain ⟨⟨x3, μ4⟩, h1, h⟩ := bdS h
      replace hF := hF.trans ((M_layMenu_fr h1).mono (by decide))
      rcases iteS h with h | h
      · cases h; exact hF
      · obtain ⟨μ5, h1, h⟩ := bdS h
        replace hF := hF.trans ((M_findMenus_fr h1).mono (by decide))
        rcases iteS h with h | h
        · cases h; exact hF
        · rcases iteS h with h | h
          · cases h; exact hF
          · rcases iteS h with h | h
            · cases h; exact hF
            · rcases iteS h with h | h
              · cases h; exact hF
              · cases h; exact hF
set_option maxRecDepth 100000 in
theorem M_messes_fr {a1 : Int32} {a2 : Int32} {a3 : Int32} {a4 : Int32} {a5 : Int32} {μ : Mem} {r : Int32} {μ' : Mem} (h : M_messes a1 a2 a3 a4 a5 μ = some (r, μ')) : Fr [1332, 1333, 1340, 1341, 1342, 1343, 1359, 1360, 1361, 1362, 1363, 1364, 1365, 1366, 1367, 1368, 1369, 1370, 1371, 1372, 1373, 1374, 1375, 1376] μ μ' := by
  unfold M_messes at h
  have hF : Fr [1332, 1333, 1340, 1341, 1342, 1343, 1359, 1360, 1361, 1362, 1363, 1364, 1365, 1366, 1367, 1368, 1369, 1370, 1371, 1372, 1373, 1374, 1375, 1376] μ μ := Fr.refl
  obtain ⟨_, _, h⟩ := bdS h
  rcases iteS h with h | h
  · cases h; exact hF
  · rcases iteS h with h | h
    · cases h; exact hF
    · obtain ⟨_, _, h⟩ := bdS h
      rcases iteS h with h | h
      · cases h; exact hF
      · obtain ⟨⟨x3, μ4⟩, h1, h⟩ := bdS h
        replace hF := hF.trans ((M_layMenu_fr h1).mono (by decide))
        rcases iteS h with h | h
        · cases h; exact hF
        · obtain ⟨_, _, h⟩ := bdS h
          rcases iteS h with h | h
          · cases h; exact hF
          · obtain ⟨μ6, h1, h⟩ := bdS h
            replace hF := hF.trans ((M_findMenus_fr h1).mono (by decide))
            rcases iteS h with h | h
            · obtain ⟨_, _, h⟩ := bdS h
              obtain ⟨_, _, h⟩ := bdS h
              cases h; exact hF
            · cases h; exact hF
set_option maxRecDepth 100000 in
theorem M_farOf_l1_fr {v1 : Int32} {v2 : Int32} {v3 : Int32} {v4 : Int32} {μo : Mem} : ∀ {n : Nat} {v5 : Int32} {μ : Mem}, M_farOf_l1 v1 v2 v3 v4 n v5 μ = some μo → Fr [1377] μ μo := by
  intro n
  induction n with
  | zero => intro v5 μ h; exact noS h
  | succ n ih =>
    intro v5 μ h
    replace h : M_farOf_l1b v1 v2 v3 v4 (M_farOf_l1 v1 v2 v3 v4 n) v5 μ = some μo := h
    unfold M_farOf_l1b at h
    have hF : Fr [1377] μ μ := Fr.refl
    rcases iteS h with h | h
    · cases h; exact hF
    · obtain ⟨μ1, h1, h⟩ := bdS h
      replace hF := fr_mWr (by decide) hF h1
      obtain ⟨_, _, h⟩ := bdS h
      exact hF.trans (ih h)
set_option maxRecDepth 100000 in
theorem M_farOf_l3_fr {v1 : Int32} {v2 : Int32} {v3 : Int32} {v4 : Int32} {v5 : Int32} {μo : Mem} : ∀ {n : Nat} {v6 : Int32} {v7 : Int32} {μ : Mem}, M_farOf_l3 v1 v2 v3 v4 v5 n v6 v7 μ = some μo → Fr [1377] μ μo := by
  intro n
  induction n with
  | zero => intro v6 v7 μ h; exact noS h
  | succ n ih =>
    intro v6 v7 μ h
    replace h : M_farOf_l3b v1 v2 v3 v4 v5 (M_farOf_l3 v1 v2 v3 v4 v5 n) v6 v7 μ = some μo := h
    unfold M_farOf_l3b at h
    have hF : Fr [1377] μ μ := Fr.refl
    rcases iteS h with h | h
    · cases h; exact hF
    · obtain ⟨_, _, h⟩ := bdS h
      obtain ⟨_, _, h⟩ := bdS h
      obtain ⟨x3, _, h⟩ := bdS h
      obtain ⟨_, _, h⟩ := bdS h
      obtain ⟨_, _, h⟩ := bdS h
      obtain ⟨_, _, h⟩ := bdS h
      obtain ⟨_, _, h⟩ := bdS h
      obtain ⟨μ8, h1, h⟩ := bdS h
      replace hF := fr_mWr (by decide) hF h1
      obtain ⟨_, _, h⟩ := bdS h
      exact hF.trans (ih h)
set_option maxRecDepth 100000 in
theorem M_farOf_l2_fr {v1 : Int32} {v2 : Int32} {v3 : Int32} {v4 : Int32} {μo : Mem} : ∀ {n : Nat} {v5 : Int32} {μ : Mem}, M_farOf_l2 v1 v2 v3 v4 n v5 μ = some μo → Fr [1377] μ μo := by
  intro n
  induction n with
  | zero => intro v5 μ h; exact noS h
  | succ n ih =>
    intro v5 μ h
    replace h : M_farOf_l2b v1 v2 v3 v4 (M_farOf_l2 v1 v2 v3 v4 n) v5 μ = some μo := h
    unfold M_farOf_l2b at h
    have hF : Fr [1377] μ μ := Fr.refl
    rcases iteS h with h | h
    · cases h; exact hF
    · obtain ⟨_, _, h⟩ := bdS h
      obtain ⟨μ2, h1, h⟩ := bdS h
      replace hF := fr_mWr (by decide) hF h1
      obtain ⟨μ3, h1, h⟩ := bdS h
      replace hF := hF.trans ((M_farOf_l3_fr h1).mono (by decide))
      obtain ⟨_, _, h⟩ := bdS h
      exact hF.trans (ih h)
set_option maxRecDepth 100000 in
theorem M_farOf_fr {a1 : Int32} {a2 : Int32} {μ : Mem} {r : Int32} {μ' : Mem} (h : M_farOf a1 a2 μ = some (r, μ')) : Fr [1377] μ μ' := by
  unfold M_farOf at h
  have hF : Fr [1377] μ μ := Fr.refl
  obtain ⟨_, _, h⟩ := bdS h
  obtain ⟨_, _, h⟩ := bdS h
  obtain ⟨μ3, h1, h⟩ := bdS h
  replace hF := hF.trans ((M_farOf_l1_fr h1).mono (by decide))
  obtain ⟨μ4, h1, h⟩ := bdS h
  replace hF := hF.trans ((M_farOf_l2_fr h1).mono (by decide))
  obtain ⟨_, _, h⟩ := bdS h
  obtain ⟨_, _, h⟩ := bdS h
  obtain ⟨_, _, h⟩ := bdS h
  obtain ⟨_, _, h⟩ := bdS h
  cases h; exact hF
set_option maxRecDepth 100000 in
theorem M_far_fr {a1 : Int32} {a2 : Int32} {μ : Mem} {r : Int32} {μ' : Mem} (h : M_far a1 a2 μ = some (r, μ')) : Fr [1377] μ μ' := by
  unfold M_far at h
  have hF : Fr [1377] μ μ := Fr.refl
  obtain ⟨_, _, h⟩ := bdS h
  rcases iteS h with h | h
  · cases h; exact hF
  · obtain ⟨_, _, h⟩ := bdS h
    rcases iteS h with h | h
    · cases h; exact hF
    · obtain ⟨⟨x3, μ4⟩, h1, h⟩ := bdS h
      replace hF := hF.trans ((M_farOf_fr h1).mono (by decide))
      cases h; exact hF
set_option maxRecDepth 100000 in
theorem M_came_l1_fr {v1 : Int32} {o1 : Int32} {μo : Mem} : ∀ {n : Nat} {v2 : Int32} {v3 : Int32} {μ : Mem}, M_came_l1 v1 n v2 v3 μ = some (o1, μo) → Fr [1377] μ μo := by
  intro n
  induction n with
  | zero => intro v2 v3 μ h; exact noS h
  | succ n ih =>
    intro v2 v3 μ h
    replace h : M_came_l1b v1 (M_came_l1 v1 n) v2 v3 μ = some (o1, μo) := h
    unfold M_came_l1b at h
    have hF : Fr [1377] μ μ := Fr.refl
    rcases iteS h with h | h
    · obtain ⟨⟨x5, μ6⟩, hj, h⟩ := bdS h
      replace hF : Fr [1377] μ μ6 := by
        clear h
        replace h := hj
        clear hj
        rcases iteS h with h | h
        · cases h; exact hF
        · obtain ⟨⟨x1, μ2⟩, h1, h⟩ := bdS h
          replace hF := hF.trans ((M_farOf_fr h1).mono (by decide))
          obtain ⟨⟨x3, μ4⟩, h1, h⟩ := bdS h
          replace hF := hF.trans ((M_farOf_fr h1).mono (by decide))
          rcases iteS h with h | h
          · cases h; exact hF
          · cases h; exact hF
      obtain ⟨_, _, h⟩ := bdS h
      exact hF.trans (ih h)
    · cases h; exact hF
set_option maxRecDepth 100000 in
theorem M_came_fr {a1 : Int32} {μ : Mem} {r : Int32} {μ' : Mem} (h : M_came a1 μ = some (r, μ')) : Fr [1377] μ μ' := by
  unfold M_came at h
  have hF : Fr [1377] μ μ := Fr.refl
  obtain ⟨_, _, h⟩ := bdS h
  rcases iteS h with h | h
  · cases h; exact hF
  · obtain ⟨⟨x2, μ3⟩, h1, h⟩ := bdS h
    replace hF := hF.trans ((M_came_l1_fr h1).mono (by decide))
    cases h; exact hF
set_option maxRecDepth 100000 in
theorem M_tree_l1_fr {μo : Mem} : ∀ {n : Nat} {v1 : Int32} {μ : Mem}, M_tree_l1 n v1 μ = some μo → Fr [1377, 1378] μ μo := by
  intro n
  induction n with
  | zero => intro v1 μ h; exact noS h
  | succ n ih =>
    intro v1 μ h
    replace h : M_tree_l1b (M_tree_l1 n) v1 μ = some μo := h
    unfold M_tree_l1b at h
    have hF : Fr [1377, 1378] μ μ := Fr.refl
    rcases iteS h with h | h
    · obtain ⟨⟨x3, μ4⟩, hj, h⟩ := bdS h
      replace hF : Fr [1377, 1378] μ μ4 := by
        clear h
        replace h := hj
        clear hj
        rcases iteS h with h | h
        · cases h; exact hF
        · obtain ⟨⟨x1, μ2⟩, h1, h⟩ := bdS h
          replace hF := hF.trans ((M_farOf_fr h1).mono (by decide))
          cases h; exact hF
      obtain ⟨μ5, h1, h⟩ := bdS h
      replace hF := fr_mWr (by decide) hF h1
      obtain ⟨_, _, h⟩ := bdS h
      exact hF.trans (ih h)
    · cases h; exact hF
set_option maxRecDepth 100000 in
theorem M_tree_l4_fr {v1 : Int32} {v2 : Int32} {v3 : Int32} {μo : Mem} : ∀ {n : Nat} {v4 : Int32} {μ : Mem}, M_tree_l4 v1 v2 v3 n v4 μ = some μo → Fr [1377, 1378] μ μo := by
  intro n
  induction n with
  | zero => intro v4 μ h; exact noS h
  | succ n ih =>
    intro v4 μ h
    replace h : M_tree_l4b v1 v2 v3 (M_tree_l4 v1 v2 v3 n) v4 μ = some μo := h
    unfold M_tree_l4b at h
    have hF : Fr [1377, 1378] μ μ := Fr.refl
    rcases iteS h with h | h
    · obtain ⟨_, _, h⟩ := bdS h
      obtain ⟨⟨x5, μ6⟩, hj, h⟩ := bdS h
      replace hF : Fr [1377, 1378] μ μ6 := by
        clear h
        replace h := hj
        clear hj
        rcases iteS h with h | h
        · cases h; exact hF
        · obtain ⟨_, _, h⟩ := bdS h
          obtain ⟨⟨x3, μ4⟩, h1, h⟩ := bdS h
          replace hF := hF.trans ((M_farOf_fr h1).mono (by decide))
          cases h; exact hF
      obtain ⟨μ7, h1, h⟩ := bdS h
      replace hF := fr_mWr (by decide) hF h1
      obtain ⟨_, _, h⟩ := bdS h
      exact hF.trans (ih h)
    · cases h; exact hF
set_option maxRecDepth 100000 in
theorem M_tree_l2_fr {o1 : Int32} {μo : Mem} : ∀ {n : Nat} {v1 : Int32} {v2 : Int32} {μ : Mem}, M_tree_l2 n v1 v2 μ = some (o1, μo) → Fr [1377, 1378] μ μo := by
  intro n
  induction n with
  | zero => intro v1 v2 μ h; exact noS h
  | succ n ih =>
    intro v1 v2 μ h
    replace h : M_tree_l2b (M_tree_l2 n) v1 v2 μ = some (o1, μo) := h
    unfold M_tree_l2b at h
    have hF : Fr [1377, 1378] μ μ := Fr.refl
    rcases iteS h with h | h
    · obtain ⟨_, _, h⟩ := bdS h
      obtain ⟨_, _, h⟩ := bdS h
      obtain ⟨_, _, h⟩ := bdS h
      obtain ⟨μ4, h1, h⟩ := bdS h
      replace hF := fr_mWr (by decide) hF h1
      obtain ⟨μ5, h1, h⟩ := bdS h
      replace hF := hF.trans ((M_tree_l4_fr h1).mono (by decide))
      obtain ⟨_, _, h⟩ := bdS h
      exact hF.trans (ih h)
    · cases h; exact hF
set_option maxRecDepth 100000 in
theorem M_tree_fr {μ : Mem} {r : Int32} {μ' : Mem} (h : M_tree μ = some (r, μ')) : Fr [1377, 1378] μ μ' := by
  unfold M_tree at h
  have hF : Fr [1377, 1378] μ μ := Fr.refl
  obtain ⟨μ1, h1, h⟩ := bdS h
  replace hF := hF.trans ((M_tree_l1_fr h1).mono (by decide))
  obtain ⟨⟨x2, μ3⟩, h1, h⟩ := bdS h
  replace hF := hF.trans ((M_tree_l2_fr h1).mono (by decide))
  cases h; exact hF
set_option maxRecDepth 100000 in
theorem M_wrote_fr {a1 : Int32} {a2 : Int32} {μ : Mem} {r : Int32} {μ' : Mem} (h : M_wrote a1 a2 μ = some (r, μ')) : Fr [1321] μ μ' := by
  unfold M_wrote at h
  have hF : Fr [1321] μ μ := Fr.refl
  obtain ⟨_, _, h⟩ := bdS h
  rcases iteS h with h | h
  · obtain ⟨_, _, h⟩ := bdS h
    cases h; exact hF
  · obtain ⟨_, _, h⟩ := bdS h
    rcases iteS h with h | h
    · obtain ⟨_, _, h⟩ := bdS h
      cases h; exact hF
    · obtain ⟨μ3, h1, h⟩ := bdS h
      replace hF := fr_mWr (by decide) hF h1
      obtain ⟨_, _, h⟩ := bdS h
      cases h; exact hF
set_option maxRecDepth 100000 in
theorem M_weight_fr {a1 : Int32} {a2 : Int32} {a3 : Int32} {μ : Mem} {r : Int32} {μ' : Mem} (h : M_weight a1 a2 a3 μ = some (r, μ')) : Fr [1332, 1333, 1340, 1341, 1342, 1343] μ μ' := by
  unfold M_weight at h
  have hF : Fr [1332, 1333, 1340, 1341, 1342, 1343] μ μ := Fr.refl
  obtain ⟨_, _, h⟩ := bdS h
  rcases iteS h with h | h
  · cases h; exact hF
  · obtain ⟨⟨x2, μ3⟩, h1, h⟩ := bdS h
    replace hF := hF.trans ((M_isTold_fr h1).mono (by decide))
    rcases iteS h with h | h
    · cases h; exact hF
    · obtain ⟨_, _, h⟩ := bdS h
      rcases iteS h with h | h
      · cases h; exact hF
      · obtain ⟨μ5, h1, h⟩ := bdS h
        replace hF := hF.trans ((M_go_fr h1).mono (by decide))
        obtain ⟨_, _, h⟩ := bdS h
        cases h; exact hF
set_option maxRecDepth 100000 in
theorem M_serves_l1_fr {v1 : Int32} {v2 : Int32} {v3 : Int32} {v4 : Int32} {o1 : Int32} {μo : Mem} : ∀ {n : Nat} {v5 : Int32} {v6 : Int32} {μ : Mem}, M_serves_l1 v1 v2 v3 v4 n v5 v6 μ = some (o1, μo) → Fr [1332, 1333, 1340, 1341, 1342, 1343] μ μo := by
  intro n
  induction n with
  | zero => intro v5 v6 μ h; exact noS h
  | succ n ih =>
    intro v5 v6 μ h
    replace h : M_serves_l1b v1 v2 v3 v4 (M_serves_l1 v1 v2 v3 v4 n) v5 v6 μ = some (o1, μo) := h
    unfold M_serves_l1b at h
    have hF : Fr [1332, 1333, 1340, 1341, 1342, 1343] μ μ := Fr.refl
    rcases iteS h with h | h
    · obtain ⟨μ1, h1, h⟩ := bdS h
      replace hF := hF.trans ((M_go_fr h1).mono (by decide))
      obtain ⟨_, _, h⟩ := bdS h
      obtain ⟨_, _, h⟩ := bdS h
      obtain ⟨x4, _, h⟩ := bdS h
      obtain ⟨_, _, h⟩ := bdS h
      exact hF.trans (ih h)
    · cases h; exact hF
set_option maxRecDepth 100000 in
theorem M_serves_fr {a1 : Int32} {a2 : Int32} {a3 : Int32} {a4 : Int32} {μ : Mem} {r : Int32} {μ' : Mem} (h : M_serves a1 a2 a3 a4 μ = some (r, μ')) : Fr [1332, 1333, 1340, 1341, 1342, 1343] μ μ' := by
  unfold M_serves at h
  have hF : Fr [1332, 1333, 1340, 1341, 1342, 1343] μ μ := Fr.refl
  obtain ⟨_, _, h⟩ := bdS h
  rcases iteS h with h | h
  · cases h; exact hF
  · obtain ⟨_, _, h⟩ := bdS h
    rcases iteS h with h | h
    · cases h; exact hF
    · obtain ⟨_, _, h⟩ := bdS h
      rcases iteS h with h | h
      · cases h; exact hF
      · obtain ⟨⟨x4, μ5⟩, h1, h⟩ := bdS h
        replace hF := hF.trans ((M_isTold_fr h1).mono (by decide))
        rcases iteS h with h | h
        · cases h; exact hF
        · rcases iteS h with h | h
          · cases h; exact hF
          · obtain ⟨⟨x6, μ7⟩, h1, h⟩ := bdS h
            replace hF := hF.trans ((M_serves_l1_fr h1).mono (by decide))
            cases h; exact hF
set_option maxRecDepth 100000 in
theorem M_boil_l1_fr {v3 : Int32} {v4 : Int32} {μ : Mem} {r : Int32} {μ' : Mem} : ∀ {n : Nat} {v5 : Int32} {v6 : Int32}, M_boil_l1 v3 v4 μ n v5 v6 = some (r, μ') → Fr [1332, 1333, 1340, 1341, 1342, 1343] μ μ' := by
  intro n
  induction n with
  | zero => intro v5 v6 h; exact noS h
  | succ n ih =>
    intro v5 v6 h
    replace h : M_boil_l1b v3 v4 μ (M_boil_l1 v3 v4 μ n) v5 v6 = some (r, μ') := h
    unfold M_boil_l1b at h
    have hF : Fr [1332, 1333, 1340, 1341, 1342, 1343] μ μ := Fr.refl
    rcases iteS h with h | h
    · cases h; exact hF
    · obtain ⟨_, _, h⟩ := bdS h
      obtain ⟨_, _, h⟩ := bdS h
      obtain ⟨_, _, h⟩ := bdS h
      obtain ⟨_, _, h⟩ := bdS h
      rcases iteS h with h | h
      · obtain ⟨_, _, h⟩ := bdS h
        exact hF.trans (ih h)
      · cases h; exact hF
set_option maxRecDepth 100000 in
theorem M_boil_fr {a1 : Int32} {a2 : Int32} {a3 : Int32} {a4 : Int32} {μ : Mem} {r : Int32} {μ' : Mem} (h : M_boil a1 a2 a3 a4 μ = some (r, μ')) : Fr [1332, 1333, 1340, 1341, 1342, 1343] μ μ' := by
  unfold M_boil at h
  have hF : Fr [1332, 1333, 1340, 1341, 1342, 1343] μ μ := Fr.refl
  obtain ⟨_, _, h⟩ := bdS h
  rcases iteS h with h | h
  · cases h; exact hF
  · obtain ⟨_, _, h⟩ := bdS h
    rcases iteS h with h | h
    · cases h; exact hF
    · obtain ⟨⟨x3, μ4⟩, h1, h⟩ := bdS h
      replace hF := hF.trans ((M_isTold_fr h1).mono (by decide))
      rcases iteS h with h | h
      · cases h; exact hF
      · obtain ⟨_, _, h⟩ := bdS h
        rcases iteS h with h | h
        · cases h; exact hF
        · obtain ⟨μ6, h1, h⟩ := bdS h
          replace hF := hF.trans ((M_go_fr h1).mono (by decide))
          exact hF.trans ((M_boil_l1_fr h).mono (by decide))
set_option maxRecDepth 100000 in
theorem M_changed_fr {a1 : Int32} {a2 : Int32} {μ : Mem} {r : Int32} {μ' : Mem} (h : M_changed a1 a2 μ = some (r, μ')) : Fr [1377] μ μ' := by
  unfold M_changed at h
  have hF : Fr [1377] μ μ := Fr.refl
  obtain ⟨⟨x1, μ2⟩, h1, h⟩ := bdS h
  replace hF := hF.trans ((M_came_fr h1).mono (by decide))
  rcases iteS h with h | h
  · cases h; exact hF
  · obtain ⟨_, _, h⟩ := bdS h
    rcases iteS h with h | h
    · cases h; exact hF
    · obtain ⟨_, _, h⟩ := bdS h
      obtain ⟨_, _, h⟩ := bdS h
      rcases iteS h with h | h
      · rcases iteS h with h | h
        · cases h; exact hF
        · cases h; exact hF
      · rcases iteS h with h | h
        · obtain ⟨⟨x7, μ8⟩, h1, h⟩ := bdS h
          replace hF := hF.trans ((M_farOf_fr h1).mono (by decide))
          obtain ⟨_, _, h⟩ := bdS h
          cases h; exact hF
        · obtain ⟨_, _, h⟩ := bdS h
          cases h; exact hF
set_option maxRecDepth 100000 in
theorem M_line_l1_fr {o1 : Int32} {μo : Mem} : ∀ {n : Nat} {v2 : Int32} {v3 : Int32} {μ : Mem}, M_line_l1 n v2 v3 μ = some (o1, μo) → Fr [1377] μ μo := by
  intro n
  induction n with
  | zero => intro v2 v3 μ h; exact noS h
  | succ n ih =>
    intro v2 v3 μ h
    replace h : M_line_l1b (M_line_l1 n) v2 v3 μ = some (o1, μo) := h
    unfold M_line_l1b at h
    have hF : Fr [1377] μ μ := Fr.refl
    rcases iteS h with h | h
    · cases h; exact hF
    · obtain ⟨_, _, h⟩ := bdS h
      obtain ⟨⟨x2, μ3⟩, h1, h⟩ := bdS h
      replace hF := hF.trans ((M_came_fr h1).mono (by decide))
      exact hF.trans (ih h)
set_option maxRecDepth 100000 in
theorem M_line_fr {a1 : Int32} {μ : Mem} {r : Int32} {μ' : Mem} (h : M_line a1 μ = some (r, μ')) : Fr [1377] μ μ' := by
  unfold M_line at h
  have hF : Fr [1377] μ μ := Fr.refl
  obtain ⟨_, _, h⟩ := bdS h
  rcases iteS h with h | h
  · cases h; exact hF
  · obtain ⟨⟨x2, μ3⟩, h1, h⟩ := bdS h
    replace hF := hF.trans ((M_came_fr h1).mono (by decide))
    obtain ⟨⟨x4, μ5⟩, h1, h⟩ := bdS h
    replace hF := hF.trans ((M_line_l1_fr h1).mono (by decide))
    cases h; exact hF
set_option maxRecDepth 100000 in
theorem M_stem_l1_fr {o1 : Int32} {μo : Mem} : ∀ {n : Nat} {v3 : Int32} {v4 : Int32} {μ : Mem}, M_stem_l1 n v3 v4 μ = some (o1, μo) → Fr [1377] μ μo := by
  intro n
  induction n with
  | zero => intro v3 v4 μ h; exact noS h
  | succ n ih =>
    intro v3 v4 μ h
    replace h : M_stem_l1b (M_stem_l1 n) v3 v4 μ = some (o1, μo) := h
    unfold M_stem_l1b at h
    have hF : Fr [1377] μ μ := Fr.refl
    rcases iteS h with h | h
    · cases h; exact hF
    · obtain ⟨⟨x1, μ2⟩, h1, h⟩ := bdS h
      replace hF := hF.trans ((M_came_fr h1).mono (by decide))
      obtain ⟨_, _, h⟩ := bdS h
      exact hF.trans (ih h)
set_option maxRecDepth 100000 in
theorem M_stem_fr {a1 : Int32} {a2 : Int32} {μ : Mem} {r : Int32} {μ' : Mem} (h : M_stem a1 a2 μ = some (r, μ')) : Fr [1377] μ μ' := by
  unfold M_stem at h
  have hF : Fr [1377] μ μ := Fr.refl
  obtain ⟨_, _, h⟩ := bdS h
  rcases iteS h with h | h
  · cases h; exact hF
  · obtain ⟨_, _, h⟩ := bdS h
    rcases iteS h with h | h
    · cases h; exact hF
    · obtain ⟨⟨x3, μ4⟩, h1, h⟩ := bdS h
      replace hF := hF.trans ((M_stem_l1_fr h1).mono (by decide))
      cases h; exact hF
set_option maxRecDepth 100000 in
theorem M_nearest_l1_fr {v1 : Int32} {o1 : Int32} {μo : Mem} : ∀ {n : Nat} {v2 : Int32} {v3 : Int32} {μ : Mem}, M_nearest_l1 v1 n v2 v3 μ = some (o1, μo) → Fr [1332, 1333, 1340, 1341, 1342, 1343, 1379] μ μo := by
  intro n
  induction n with
  | zero => intro v2 v3 μ h; exact noS h
  | succ n ih =>
    intro v2 v3 μ h
    replace h : M_nearest_l1b v1 (M_nearest_l1 v1 n) v2 v3 μ = some (o1, μo) := h
    unfold M_nearest_l1b at h
    have hF : Fr [1332, 1333, 1340, 1341, 1342, 1343, 1379] μ μ := Fr.refl
    obtain ⟨_, _, h⟩ := bdS h
    rcases iteS h with h | h
    · obtain ⟨_, _, h⟩ := bdS h
      obtain ⟨x5, _, h⟩ := bdS h
      obtain ⟨μ6, h1, h⟩ := bdS h
      replace hF := fr_mWr (by decide) hF h1
      obtain ⟨x8, _, h⟩ := bdS h
      obtain ⟨_, _, h⟩ := bdS h
      exact hF.trans (ih h)
    · cases h; exact hF
set_option maxRecDepth 100000 in
theorem M_nearest_l2_fr {v1 : Int32} {v2 : Int32} {o1 : Int32} {μo : Mem} : ∀ {n : Nat} {v3 : Int32} {v4 : Int32} {v5 : Int32} {μ : Mem}, M_nearest_l2 v1 v2 n v3 v4 v5 μ = some (o1, μo) → Fr [1332, 1333, 1340, 1341, 1342, 1343, 1379] μ μo := by
  intro n
  induction n with
  | zero => intro v3 v4 v5 μ h; exact noS h
  | succ n ih =>
    intro v3 v4 v5 μ h
    replace h : M_nearest_l2b v1 v2 (M_nearest_l2 v1 v2 n) v3 v4 v5 μ = some (o1, μo) := h
    unfold M_nearest_l2b at h
    have hF : Fr [1332, 1333, 1340, 1341, 1342, 1343, 1379] μ μ := Fr.refl
    rcases iteS h with h | h
    · rcases iteS h with h | h
      · cases h; exact hF
      · obtain ⟨_, _, h⟩ := bdS h
        obtain ⟨μ2, h1, h⟩ := bdS h
        replace hF := hF.trans ((M_lay_fr h1).mono (by decide))
        obtain ⟨_, _, h⟩ := bdS h
        obtain ⟨⟨x4, x5⟩, _, h⟩ := bdS h
        obtain ⟨_, _, h⟩ := bdS h
        exact hF.trans (ih h)
    · cases h; exact hF
set_option maxRecDepth 100000 in
theorem M_nearest_fr {a1 : Int32} {μ : Mem} {r : Int32} {μ' : Mem} (h : M_nearest a1 μ = some (r, μ')) : Fr [1332, 1333, 1340, 1341, 1342, 1343, 1379] μ μ' := by
  unfold M_nearest at h
  have hF : Fr [1332, 1333, 1340, 1341, 1342, 1343, 1379] μ μ := Fr.refl
  obtain ⟨⟨x1, μ2⟩, h1, h⟩ := bdS h
  replace hF := hF.trans ((M_isTold_fr h1).mono (by decide))
  rcases iteS h with h | h
  · cases h; exact hF
  · obtain ⟨⟨x3, μ4⟩, h1, h⟩ := bdS h
    replace hF := hF.trans ((M_nearest_l1_fr h1).mono (by decide))
    obtain ⟨⟨x5, μ6⟩, h1, h⟩ := bdS h
    replace hF := hF.trans ((M_nearest_l2_fr h1).mono (by decide))
    cases h; exact hF
set_option maxRecDepth 100000 in
theorem M_lacking_fr {a1 : Int32} {a2 : Int32} {a3 : Int32} {a4 : Int32} {μ : Mem} {r : Int32} {μ' : Mem} (h : M_lacking a1 a2 a3 a4 μ = some (r, μ')) : Fr [1332, 1333, 1340, 1341, 1342, 1343] μ μ' := by
  unfold M_lacking at h
  have hF : Fr [1332, 1333, 1340, 1341, 1342, 1343] μ μ := Fr.refl
  obtain ⟨_, _, h⟩ := bdS h
  rcases iteS h with h | h
  · cases h; exact hF
  · obtain ⟨_, _, h⟩ := bdS h
    rcases iteS h with h | h
    · cases h; exact hF
    · obtain ⟨⟨x3, μ4⟩, h1, h⟩ := bdS h
      replace hF := hF.trans ((M_isTold_fr h1).mono (by decide))
      rcases iteS h with h | h
      · cases h; exact hF
      · obtain ⟨_, _, h⟩ := bdS h
        rcases iteS h with h | h
        · cases h; exact hF
        · obtain ⟨_, _, h⟩ := bdS h
          obtain ⟨μ7, h1, h⟩ := bdS h
          replace hF := hF.trans ((M_lay_fr h1).mono (by decide))
          obtain ⟨_, _, h⟩ := bdS h
          cases h; exact hF
set_option maxRecDepth 100000 in
theorem M_enough_fr {a1 : Int32} {a2 : Int32} {a3 : Int32} {μ : Mem} {r : Int32} {μ' : Mem} (h : M_enough a1 a2 a3 μ = some (r, μ')) : Fr [1332, 1333, 1340, 1341, 1342, 1343] μ μ' := by
  unfold M_enough at h
  have hF : Fr [1332, 1333, 1340, 1341, 1342, 1343] μ μ := Fr.refl
  obtain ⟨_, _, h⟩ := bdS h
  rcases iteS h with h | h
  · cases h; exact hF
  · obtain ⟨⟨x2, μ3⟩, h1, h⟩ := bdS h
    replace hF := hF.trans ((M_isTold_fr h1).mono (by decide))
    rcases iteS h with h | h
    · cases h; exact hF
    · obtain ⟨_, _, h⟩ := bdS h
      rcases iteS h with h | h
      · cases h; exact hF
      · obtain ⟨_, _, h⟩ := bdS h
        obtain ⟨μ6, h1, h⟩ := bdS h
        replace hF := hF.trans ((M_lay_fr h1).mono (by decide))
        obtain ⟨_, _, h⟩ := bdS h
        cases h; exact hF
set_option maxRecDepth 100000 in
theorem M_wasted_fr {a1 : Int32} {a2 : Int32} {a3 : Int32} {a4 : Int32} {μ : Mem} {r : Int32} {μ' : Mem} (h : M_wasted a1 a2 a3 a4 μ = some (r, μ')) : Fr [1332, 1333, 1340, 1341, 1342, 1343, 1359, 1360, 1361, 1362, 1363, 1364, 1365, 1366, 1367, 1368, 1369, 1370, 1371, 1372, 1373, 1374, 1375, 1376] μ μ' := by
  unfold M_wasted at h
  have hF : Fr [1332, 1333, 1340, 1341, 1342, 1343, 1359, 1360, 1361, 1362, 1363, 1364, 1365, 1366, 1367, 1368, 1369, 1370, 1371, 1372, 1373, 1374, 1375, 1376] μ μ := Fr.refl
  obtain ⟨_, _, h⟩ := bdS h
  rcases iteS h with h | h
  · cases h; exact hF
  · rcases iteS h with h | h
    · cases h; exact hF
    · obtain ⟨⟨x2, μ3⟩, h1, h⟩ := bdS h
      replace hF := hF.trans ((M_layMenu_fr h1).mono (by decide))
      rcases iteS h with h | h
      · cases h; exact hF
      · obtain ⟨μ4, h1, h⟩ := bdS h
        replace hF := hF.trans ((M_findMenus_fr h1).mono (by decide))
        rcases iteS h with h | h
        · cases h; exact hF
        · cases h; exact hF
set_option maxRecDepth 100000 in
theorem M_lean_fr {a1 : Int32} {a2 : Int32} {a3 : Int32} {a4 : Int32} {μ : Mem} {r : Int32} {μ' : Mem} (h : M_lean a1 a2 a3 a4 μ = some (r, μ')) : Fr [1332, 1333, 1340, 1341, 1342, 1343, 1359, 1360, 1361, 1362, 1363, 1364, 1365, 1366, 1367, 1368, 1369, 1370, 1371, 1372, 1373, 1374, 1375, 1376] μ μ' := by
  unfold M_lean at h
  have hF : Fr [1332, 1333, 1340, 1341, 1342, 1343, 1359, 1360, 1361, 1362, 1363, 1364, 1365, 1366, 1367, 1368, 1369, 1370, 1371, 1372, 1373, 1374, 1375, 1376] μ μ := Fr.refl
  obtain ⟨_, _, h⟩ := bdS h
  rcases iteS h with h | h
  · cases h; exact hF
  · obtain ⟨_, _, h⟩ := bdS h
    rcases iteS h with h | h
    · cases h; exact hF
    · obtain ⟨⟨x3, μ4⟩, h1, h⟩ := bdS h
      replace hF := hF.trans ((M_layMenu_fr h1).mono (by decide))
      rcases iteS h with h | h
      · cases h; exact hF
      · obtain ⟨μ5, h1, h⟩ := bdS h
        replace hF := hF.trans ((M_findMenus_fr h1).mono (by decide))
        rcases iteS h with h | h
        · cases h; exact hF
        · rcases iteS h with h | h
          · cases h; exact hF
          · rcases iteS h with h | h
            · cases h; exact hF
            · cases h; exact hF
set_option maxRecDepth 100000 in
theorem M_softer_l1_fr {v1 : Int32} {v2 : Int32} {v3 : Int32} {o1 : Int32} {μo : Mem} : ∀ {n : Nat} {v4 : Int32} {v5 : Int32} {μ : Mem}, M_softer_l1 v1 v2 v3 n v4 v5 μ = some (o1, μo) → Fr [1332, 1333, 1340, 1341, 1342, 1343, 1380, 1381] μ μo := by
  intro n
  induction n with
  | zero => intro v4 v5 μ h; exact noS h
  | succ n ih =>
    intro v4 v5 μ h
    replace h : M_softer_l1b v1 v2 v3 (M_softer_l1 v1 v2 v3 n) v4 v5 μ = some (o1, μo) := h
    unfold M_softer_l1b at h
    have hF : Fr [1332, 1333, 1340, 1341, 1342, 1343, 1380, 1381] μ μ := Fr.refl
    rcases iteS h with h | h
    · obtain ⟨μ1, h1, h⟩ := bdS h
      replace hF := hF.trans ((M_go_fr h1).mono (by decide))
      obtain ⟨⟨x2, μ3⟩, h1, h⟩ := bdS h
      replace hF := hF.trans ((M_worthNow_fr h1).mono (by decide))
      obtain ⟨μ4, h1, h⟩ := bdS h
      replace hF := fr_mWr (by decide) hF h1
      obtain ⟨⟨x5, μ6⟩, h1, h⟩ := bdS h
      replace hF := hF.trans ((M_worthNow_fr h1).mono (by decide))
      obtain ⟨μ7, h1, h⟩ := bdS h
      replace hF := fr_mWr (by decide) hF h1
      obtain ⟨_, _, h⟩ := bdS h
      obtain ⟨_, _, h⟩ := bdS h
      exact hF.trans (ih h)
    · cases h; exact hF
set_option maxRecDepth 100000 in
theorem M_softer_fr {a1 : Int32} {a2 : Int32} {a3 : Int32} {μ : Mem} {r : Int32} {μ' : Mem} (h : M_softer a1 a2 a3 μ = some (r, μ')) : Fr [1332, 1333, 1340, 1341, 1342, 1343, 1380, 1381] μ μ' := by
  unfold M_softer at h
  have hF : Fr [1332, 1333, 1340, 1341, 1342, 1343, 1380, 1381] μ μ := Fr.refl
  obtain ⟨_, _, h⟩ := bdS h
  rcases iteS h with h | h
  · cases h; exact hF
  · obtain ⟨_, _, h⟩ := bdS h
    rcases iteS h with h | h
    · cases h; exact hF
    · obtain ⟨⟨x3, μ4⟩, h1, h⟩ := bdS h
      replace hF := hF.trans ((M_isTold_fr h1).mono (by decide))
      rcases iteS h with h | h
      · cases h; exact hF
      · rcases iteS h with h | h
        · cases h; exact hF
        · obtain ⟨⟨x5, μ6⟩, h1, h⟩ := bdS h
          replace hF := hF.trans ((M_softer_l1_fr h1).mono (by decide))
          cases h; exact hF
set_option maxRecDepth 100000 in
theorem M_swapped_l1_fr {v1 : Int32} {v4 : Int32} {v5 : Int32} {o1 : Int32} {μo : Mem} : ∀ {n : Nat} {v6 : Int32} {v7 : Int32} {μ : Mem}, M_swapped_l1 v1 v4 v5 n v6 v7 μ = some (o1, μo) → Fr [1332, 1333, 1340, 1341, 1342, 1343] μ μo := by
  intro n
  induction n with
  | zero => intro v6 v7 μ h; exact noS h
  | succ n ih =>
    intro v6 v7 μ h
    replace h : M_swapped_l1b v1 v4 v5 (M_swapped_l1 v1 v4 v5 n) v6 v7 μ = some (o1, μo) := h
    unfold M_swapped_l1b at h
    have hF : Fr [1332, 1333, 1340, 1341, 1342, 1343] μ μ := Fr.refl
    rcases iteS h with h | h
    · obtain ⟨_, _, h⟩ := bdS h
      obtain ⟨μ2, h1, h⟩ := bdS h
      replace hF := hF.trans ((M_lay_fr h1).mono (by decide))
      obtain ⟨_, _, h⟩ := bdS h
      obtain ⟨_, _, h⟩ := bdS h
      obtain ⟨μ5, h1, h⟩ := bdS h
      replace hF := fr_mWr (by decide) hF h1
      obtain ⟨μ6, h1, h⟩ := bdS h
      replace hF := fr_mWr (by decide) hF h1
      obtain ⟨μ7, h1, h⟩ := bdS h
      replace hF := hF.trans ((M_spell_fr h1).mono (by decide))
      obtain ⟨_, _, h⟩ := bdS h
      obtain ⟨⟨x12, μ13⟩, hj, h⟩ := bdS h
      replace hF : Fr [1332, 1333, 1340, 1341, 1342, 1343] μ μ13 := by
        clear h
        replace h := hj
        clear hj
        rcases iteS h with h | h
        · cases h; exact hF
        · obtain ⟨_, _, h⟩ := bdS h
          rcases iteS h with h | h
          · cases h; exact hF
          · obtain ⟨⟨x10, μ11⟩, h1, h⟩ := bdS h
            replace hF := hF.trans ((M_isKept_fr h1).mono (by decide))
            rcases iteS h with h | h
            · cases h; exact hF
            · cases h; exact hF
      obtain ⟨_, _, h⟩ := bdS h
      obtain ⟨_, _, h⟩ := bdS h
      exact hF.trans (ih h)
    · cases h; exact hF
set_option maxRecDepth 100000 in
theorem M_swapped_fr {a1 : Int32} {a2 : Int32} {a3 : Int32} {μ : Mem} {r : Int32} {μ' : Mem} (h : M_swapped a1 a2 a3 μ = some (r, μ')) : Fr [1332, 1333, 1340, 1341, 1342, 1343] μ μ' := by
  unfold M_swapped at h
  have hF : Fr [1332, 1333, 1340, 1341, 1342, 1343] μ μ := Fr.refl
  rcases iteS h with h | h
  · cases h; exact hF
  · obtain ⟨_, _, h⟩ := bdS h
    rcases iteS h with h | h
    · cases h; exact hF
    · obtain ⟨_, _, h⟩ := bdS h
      rcases iteS h with h | h
      · cases h; exact hF
      · obtain ⟨⟨x3, μ4⟩, h1, h⟩ := bdS h
        replace hF := hF.trans ((M_isTold_fr h1).mono (by decide))
        rcases iteS h with h | h
        · cases h; exact hF
        · obtain ⟨_, _, h⟩ := bdS h
          rcases iteS h with h | h
          · cases h; exact hF
          · obtain ⟨_, _, h⟩ := bdS h
            rcases iteS h with h | h
            · cases h; exact hF
            · obtain ⟨_, _, h⟩ := bdS h
              obtain ⟨_, _, h⟩ := bdS h
              obtain ⟨⟨x9, μ10⟩, h1, h⟩ := bdS h
              replace hF := hF.trans ((M_swapped_l1_fr h1).mono (by decide))
              cases h; exact hF
