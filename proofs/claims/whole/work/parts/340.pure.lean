/-! PURE: all menus are sought in the reference -/
def skW : List Nat := 1362 :: cntW
def leafS (S : St) (d a K : Nat) (tg : Int32) (x : Nat → Nat) (c : AcT) : AcT := if isMn S d a K x then noteS S d a tg x c else c
theorem cap_le {S : St} {d a i : Nat} : mcap S d a i ≤ 9 := by
  unfold mcap
  split <;> omega
theorem seek_M {S : St} {d a K : Nat} {tg : Int32} (W : WF S) (hd : d < nDy S) (h5 : mm S a ≤ 5) (hG : mG S a < 4096) (hK : K ≤ 99) :
    ∀ (m k n : Nat) (x : Nat → Nat) (c : AcT) (ν : Mem), k + m = mm S a → m < n → MR S ν → R_mn S d a ν → mI ν 1372 0 0 = nI d → (∀ i, i < k → mI ν 1362 0 i = nI (x i) ∧ x i ≤ 9) → R_ac S a tg c ν → AcOk c → c.1.1 + 10 ^ m ≤ 900000 →
    ∃ ν', G_M_seek n (nI d) (nI K) (nI k) ν = some ν' ∧ Fr skW ν ν' ∧ R_ac S a tg (skS (mcap S d a) (leafS S d a K tg) m k x c) ν' ∧ AcOk (skS (mcap S d a) (leafS S d a K tg) m k x c) ∧ (skS (mcap S d a) (leafS S d a K tg) m k x c).1.1 ≤ c.1.1 + 10 ^ m ∧ ∀ i, i < k → mI ν' 1362 0 i = nI (x i) := by
  intro m
  induction m with
  | zero =>
    intro k n x c ν hk hn R L h72 hX A o hc
    obtain ⟨n, rfl⟩ : ∃ g, n = g + 1 := ⟨n - 1, by omega⟩
    have hk : k = mm S a := by omega
    subst hk
    have hm := isMenu_M W R hd h5 hG hK L (fun i hi => (hX i hi).1) (fun i hi => (hX i hi).2)
    show ∃ ν', M_seek_B (G_M_seek n) (nI d) (nI K) (nI (mm S a)) ν = some ν' ∧ _ ∧ R_ac S a tg (leafS S d a K tg x c) ν' ∧ AcOk (leafS S d a K tg x c) ∧ (leafS S d a K tg x c).1.1 ≤ _ ∧ _
    unfold M_seek_B leafS
    rw [L.1, if_pos rfl, hm, bS]
    cases h : isMn S d a K x with
    | false =>
      rw [if_pos (show nI false.toNat = 0 from rfl), if_neg (fun z => nomatch z)]
      exact ⟨ν, rfl, Fr.refl, A, o, by omega, fun i hi => (hX i hi).1⟩
    | true =>
      obtain ⟨ν1, e1, e2, e3⟩ := countMenu_M W R hd h5 hG L h72 (fun i hi => (hX i hi).1) (fun i hi => (hX i hi).2) h A o (by omega)
      rw [if_neg (show ¬ nI true.toNat = 0 from n10), if_pos rfl, e1, bS]
      exact ⟨ν1, rfl, e2.mono (fun v hv => List.mem_cons_of_mem _ hv), e3, note_ok W hd h5 (fun i hi => (hX i hi).2) o (by omega), by show c.1.1 + 1 ≤ _; omega, fun i hi => by rw [e2.i 1362 (by decide)]; exact (hX i hi).1⟩
  | succ m ih =>
    intro k n x c ν hk hn R L h72 hX A o hc
    obtain ⟨n, rfl⟩ : ∃ g, n = g + 1 := ⟨n - 1, by omega⟩
    have hkm : k < mm S a := by omega
    have hcap := cap_le (S := S) (d := d) (a := a) (i := k)
    have hp : 10 ^ (m + 1) = 10 * 10 ^ m := by rw [Nat.pow_succ, Nat.mul_comm]
    obtain ⟨P, hP⟩ : ∃ P, P = 10 ^ m := ⟨_, rfl⟩
    rw [hp, ← hP] at hc ⊢
    rw [← hP] at ih
    show ∃ ν', M_seek_B (G_M_seek n) (nI d) (nI K) (nI k) ν = some ν' ∧ _
    unfold M_seek_B
    rw [L.1, if_neg (fun z => absurd ((eq_n (by omega) (by omega)).mp z) (by omega))]
    obtain ⟨T, hT⟩ : ∃ T, T = skS (mcap S d a) (leafS S d a K tg) (m + 1) k x c := ⟨_, rfl⟩
    rw [← hT]
    have hT' : fo (fun v a' => skS (mcap S d a) (leafS S d a K tg) m (k + 1) (upX x k v) a') 0 (mcap S d a k + 1) c = T := hT.symm
    obtain ⟨ν1, e1, e2, e3, e4, e5, e6⟩ : ∃ r, M_seek_l1 (G_M_seek n) (nI d) (nI K) (nI k) FU (nI 0) ν = some r ∧ Fr skW ν r ∧ R_ac S a tg T r ∧ AcOk T ∧ T.1.1 ≤ c.1.1 + 10 * P ∧ ∀ i, i < k → mI r 1362 0 i = nI (x i) := by
      refine loopE (fun f v s => M_seek_l1 (G_M_seek n) (nI d) (nI K) (nI k) f v s) (mcap S d a k + 1) (fun j s => Fr skW ν s ∧ (∀ i, i < k → mI s 1362 0 i = nI (x i)) ∧ ∃ cj, R_ac S a tg cj s ∧ AcOk cj ∧ cj.1.1 ≤ c.1.1 + j * P ∧ fo (fun v a' => skS (mcap S d a) (leafS S d a K tg) m (k + 1) (upX x k v) a') j (mcap S d a k + 1 - j) cj = T) _ ?_ ?_ (mcap S d a k + 1) 0 ν FU (by omega) (FU_lt (by omega)) ⟨Fr.refl, fun i hi => (hX i hi).1, c, A, o, by omega, hT'⟩
      · rintro f j s hj ⟨F, hx, cj, g1, g2, g3, g4⟩
        left
        have f60 : mI s 1360 0 k = nI (srvB S d (mq S a k)).toNat := by rw [F.i 1360 (by decide)]; exact (L.2.2 k hkm).2.1
        have hcapv : (if nI (srvB S d (mq S a k)).toNat = 0 then some (nI 0) else some (nI 9)) = some (nI (mcap S d a k)) := by
          unfold mcap
          cases srvB S d (mq S a k) with
          | false => rfl
          | true => rfl
        have hjP : (j + 1) * P ≤ 10 * P := Nat.mul_le_mul_right P (by omega)
        rw [Nat.succ_mul] at hjP
        have f2 : Fr skW ν (mSI s 1362 0 k (nI j)) := fr_si (by simp [skW]) F
        have hup : ∀ i, i < k + 1 → mI (mSI s 1362 0 k (nI j)) 1362 0 i = nI (upX x k j i) ∧ upX x k j i ≤ 9 := by
          intro i hi
          by_cases e : i = k
          · subst e
            unfold upX
            rw [if_pos rfl]
            exact ⟨iS_eq, by omega⟩
          · unfold upX
            rw [if_neg e]
            exact ⟨(iS_c e).trans (hx i (by omega)), (hX i (by omega)).2⟩
        have hac : R_ac S a tg cj (mSI s 1362 0 k (nI j)) := by
          obtain ⟨A1, A2, A3, A4, A5, A6, A7, A8⟩ := g1
          exact ⟨(iS_v (by decide)).trans A1, (iS_v (by decide)).trans A2, (iS_v (by decide)).trans A3, (iS_v (by decide)).trans A4, (iS_v (by decide)).trans A5, (iS_v (by decide)).trans A6, fun h => ⟨(iS_v (by decide)).trans (A7 h).1, (iS_v (by decide)).trans (A7 h).2.1, (iS_v (by decide)).trans (A7 h).2.2⟩, fun i h1 h2 => ⟨(iS_v (by decide)).trans (A8 i h1 h2).1, fun u hu => (iS_v (by decide)).trans ((A8 i h1 h2).2 u hu)⟩⟩
        have hmn : R_mn S d a (mSI s 1362 0 k (nI j)) := ⟨by rw [f2.i 1364 (by decide)]; exact L.1, by rw [f2.i 1365 (by decide)]; exact L.2.1, fun i hi => ⟨by rw [f2.i 1359 (by decide)]; exact (L.2.2 i hi).1, by rw [f2.i 1360 (by decide)]; exact (L.2.2 i hi).2.1, fun t ht => by rw [f2.i 1361 (by decide)]; exact (L.2.2 i hi).2.2 t ht⟩⟩
        obtain ⟨s1, d1, d2, d3, d4, d5, d6⟩ := ih (k + 1) n (upX x k j) cj (mSI s 1362 0 k (nI j)) (by omega) (by omega) (R.fr f2 (by decide)) hmn (by rw [f2.i 1372 (by decide)]; exact h72) hup hac g2 (by omega)
        refine ⟨s1, ?_, f2.trans d2, fun i hi => ?_, _, d3, d4, ?_, ?_⟩
        · show M_seek_l1b (G_M_seek n) (nI d) (nI K) (nI k) (M_seek_l1 (G_M_seek n) (nI d) (nI K) (nI k) f) (nI j) s = _
          unfold M_seek_l1b
          rw [rd_n (by omega) (by decide), f60, bS, hcapv, bS, if_neg (fun z => absurd ((lt_n (by omega) (by omega)).mp z) (by omega)), wr_n (by omega) (by decide), bS, add_n, d1, bS, bS, add_n]
        · rw [d6 i (by omega)]
          unfold upX
          rw [if_neg (by omega)]
        · rw [Nat.succ_mul]; omega
        · rw [fo_s (by omega)] at g4
          rw [show mcap S d a k + 1 - (j + 1) = mcap S d a k + 1 - j - 1 by omega]
          exact g4
      · rintro f s ⟨F, hx, cj, g1, g2, g3, g4⟩
        rw [Nat.sub_self] at g4
        have g4 : cj = T := g4
        subst g4
        have f60 : mI s 1360 0 k = nI (srvB S d (mq S a k)).toNat := by rw [F.i 1360 (by decide)]; exact (L.2.2 k hkm).2.1
        have hcapv : (if nI (srvB S d (mq S a k)).toNat = 0 then some (nI 0) else some (nI 9)) = some (nI (mcap S d a k)) := by
          unfold mcap
          cases srvB S d (mq S a k) with
          | false => rfl
          | true => rfl
        have hjP : (mcap S d a k + 1) * P ≤ 10 * P := Nat.mul_le_mul_right P (by omega)
        refine ⟨s, ?_, F, g1, g2, by omega, hx⟩
        show M_seek_l1b (G_M_seek n) (nI d) (nI K) (nI k) (M_seek_l1 (G_M_seek n) (nI d) (nI K) (nI k) f) (nI (mcap S d a k + 1)) s = _
        unfold M_seek_l1b
        rw [rd_n (by omega) (by decide), f60, bS, hcapv, bS, if_pos ((lt_n (by omega) (by omega)).mpr (by omega))]
    rw [e1, bS]
    exact ⟨ν1, rfl, e2, e3, e4, e5, e6⟩
