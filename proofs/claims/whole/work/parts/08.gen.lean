/-! a generator modulo each prime, and the walk that finds the first -/
theorem gt_get {s : Nat} : ∀ k, gt_al s k = true → ∀ N, s ≤ N → N < s + k → gt_ok N = true := by
  intro k
  induction k with
  | zero => intro _ N a b; omega
  | succ k ih =>
    intro h N a b
    rw [gt_al, Bool.and_eq_true] at h
    by_cases z : N = s + k
    · rw [z]; exact h.2
    · exact ih h.1 N a (by omega)
theorem gt_all {N : Nat} (h1 : 2 ≤ N) (h2 : N ≤ 30000) : gt_ok N = true := by
  by_cases c0 : N < 1002
  · exact gt_get 1000 gt_k0 N (by omega) (by omega)
  by_cases c1 : N < 2002
  · exact gt_get 1000 gt_k1 N (by omega) (by omega)
  by_cases c2 : N < 3002
  · exact gt_get 1000 gt_k2 N (by omega) (by omega)
  by_cases c3 : N < 4002
  · exact gt_get 1000 gt_k3 N (by omega) (by omega)
  by_cases c4 : N < 5002
  · exact gt_get 1000 gt_k4 N (by omega) (by omega)
  by_cases c5 : N < 6002
  · exact gt_get 1000 gt_k5 N (by omega) (by omega)
  by_cases c6 : N < 7002
  · exact gt_get 1000 gt_k6 N (by omega) (by omega)
  by_cases c7 : N < 8002
  · exact gt_get 1000 gt_k7 N (by omega) (by omega)
  by_cases c8 : N < 9002
  · exact gt_get 1000 gt_k8 N (by omega) (by omega)
  by_cases c9 : N < 10002
  · exact gt_get 1000 gt_k9 N (by omega) (by omega)
  by_cases c10 : N < 11002
  · exact gt_get 1000 gt_k10 N (by omega) (by omega)
  by_cases c11 : N < 12002
  · exact gt_get 1000 gt_k11 N (by omega) (by omega)
  by_cases c12 : N < 13002
  · exact gt_get 1000 gt_k12 N (by omega) (by omega)
  by_cases c13 : N < 14002
  · exact gt_get 1000 gt_k13 N (by omega) (by omega)
  by_cases c14 : N < 15002
  · exact gt_get 1000 gt_k14 N (by omega) (by omega)
  by_cases c15 : N < 16002
  · exact gt_get 1000 gt_k15 N (by omega) (by omega)
  by_cases c16 : N < 17002
  · exact gt_get 1000 gt_k16 N (by omega) (by omega)
  by_cases c17 : N < 18002
  · exact gt_get 1000 gt_k17 N (by omega) (by omega)
  by_cases c18 : N < 19002
  · exact gt_get 1000 gt_k18 N (by omega) (by omega)
  by_cases c19 : N < 20002
  · exact gt_get 1000 gt_k19 N (by omega) (by omega)
  by_cases c20 : N < 21002
  · exact gt_get 1000 gt_k20 N (by omega) (by omega)
  by_cases c21 : N < 22002
  · exact gt_get 1000 gt_k21 N (by omega) (by omega)
  by_cases c22 : N < 23002
  · exact gt_get 1000 gt_k22 N (by omega) (by omega)
  by_cases c23 : N < 24002
  · exact gt_get 1000 gt_k23 N (by omega) (by omega)
  by_cases c24 : N < 25002
  · exact gt_get 1000 gt_k24 N (by omega) (by omega)
  by_cases c25 : N < 26002
  · exact gt_get 1000 gt_k25 N (by omega) (by omega)
  by_cases c26 : N < 27002
  · exact gt_get 1000 gt_k26 N (by omega) (by omega)
  by_cases c27 : N < 28002
  · exact gt_get 1000 gt_k27 N (by omega) (by omega)
  by_cases c28 : N < 29002
  · exact gt_get 1000 gt_k28 N (by omega) (by omega)
  by_cases c29 : N < 30002
  · exact gt_get 1000 gt_k29 N (by omega) (by omega)
  omega
theorem gt_b {a b : Nat} (h : (!(Nat.beq a b)) = true) : a ≠ b := fun e => by
  subst e
  rw [Nat.beq_refl] at h
  exact absurd h (by decide)
theorem gt_cs {n N : Nat} : ∀ d, d ≤ 172 → gt_c n N d = true → ∃ e, 2 ≤ e ∧ e ≤ n ∧ e ∣ N := by
  intro d
  induction d with
  | zero => intro _ h; exact absurd h Bool.false_ne_true
  | succ d ih =>
    intro hd h
    rw [gt_c, Bool.or_eq_true, Bool.and_eq_true] at h
    cases h with
    | inl h => exact ⟨173 - d, by omega, Nat.le_of_ble_eq_true h.2, Nat.dvd_of_mod_eq_zero (Nat.eq_of_beq_eq_true h.1)⟩
    | inr h => exact ih (by omega) h
theorem gt_fs {n N : Nat} : ∀ g, g ≤ 31 → gt_f n N g = true → ∃ b, 1 ≤ b ∧ b ≤ n ∧ gt_t n N b 173 = true := by
  intro g
  induction g with
  | zero => intro _ h; exact absurd h Bool.false_ne_true
  | succ g ih =>
    intro hg h
    rw [gt_f, Bool.or_eq_true, Bool.and_eq_true] at h
    cases h with
    | inl h => exact ⟨31 - g, by omega, Nat.le_of_ble_eq_true h.1, h.2⟩
    | inr h => exact ih (by omega) h
theorem gt_ts {n N g : Nat} : ∀ d, d ≤ 173 → gt_t n N g d = true → g ^ n % N = 1 ∧ ∀ e, 173 < e + d → e ≤ 173 → gt_d n N g e = true := by
  intro d
  induction d with
  | zero => intro _ h; exact ⟨Nat.eq_of_beq_eq_true h, fun e a b => by omega⟩
  | succ d ih =>
    intro hd h
    rw [gt_t, Bool.and_eq_true] at h
    have r := ih (by omega) h.2
    refine ⟨r.1, fun e a b => ?_⟩
    by_cases z : e = 173 - d
    · rw [z]; exact h.1
    · exact r.2 e (by omega) b
theorem gt_ds {n N g d : Nat} (h : gt_d n N g d = true) (h0 : n % d = 0) : (d = n ∨ g ^ d % N ≠ 1) ∧ (d = 1 ∨ g ^ (n / d) % N ≠ 1) := by
  have h' : (!(Nat.beq (n % d) 0) || ((Nat.beq d n || !(Nat.beq (g ^ d % N) 1)) && (Nat.beq d 1 || !(Nat.beq (g ^ (n / d) % N) 1)))) = true := h
  rw [h0, Bool.or_eq_true] at h'
  cases h' with
  | inl h' => exact absurd rfl (gt_b h')
  | inr h' =>
    rw [Bool.and_eq_true, Bool.or_eq_true, Bool.or_eq_true] at h'
    exact ⟨h'.1.imp Nat.eq_of_beq_eq_true gt_b, h'.2.imp Nat.eq_of_beq_eq_true gt_b⟩
theorem nt_pm {g e N : Nat} (hN : 2 ≤ N) (h : g ^ e % N = 1) (c r : Nat) : g ^ (e * c + r) % N = g ^ r % N := by
  have h1 : (g ^ e) ^ c % N = 1 := by
    rw [Nat.pow_mod, h, Nat.one_pow, Nat.mod_eq_of_lt (by omega)]
  rw [Nat.pow_add, Nat.pow_mul, Nat.mul_mod, h1, Nat.one_mul, Nat.mod_mod]
theorem gn_ex {N : Nat} (hN : N ≤ 30000) (hp : nt_Pr N) : ∃ g, 1 ≤ g ∧ g < N ∧ ∀ j, 1 ≤ j → j < N - 1 → g ^ j % N ≠ 1 := by
  have hN2 := hp.1
  obtain ⟨n, rfl⟩ : ∃ n, N = n + 1 := ⟨N - 1, by omega⟩
  have h := gt_all hN2 hN
  rw [gt_ok, Bool.or_eq_true] at h
  cases h with
  | inl h =>
    obtain ⟨e, e2, en, ed⟩ := gt_cs 172 (by omega) h
    have := hp.2 e e2 ed
    omega
  | inr h =>
    obtain ⟨g, g1, gn, ht⟩ := gt_fs 31 (by omega) h
    obtain ⟨hf, hd⟩ := gt_ts 173 (by omega) ht
    refine ⟨g, g1, by omega, fun j j1 jn hj => ?_⟩
    obtain ⟨e, ⟨e1, he⟩, hl⟩ := pk_least (fun e => 1 ≤ e ∧ g ^ e % (n + 1) = 1) ⟨j, j1, hj⟩
    have hej : e ≤ j := by
      by_cases z : j < e
      · exact absurd ⟨j1, hj⟩ (hl j z)
      · omega
    have hr : n % e = 0 := by
      by_cases z : n % e = 0
      · exact z
      · refine absurd ⟨by omega, ?_⟩ (hl (n % e) (Nat.mod_lt n (by omega)))
        rw [← nt_pm hN2 he (n / e) (n % e), Nat.div_add_mod]
        exact hf
    by_cases c1 : e ≤ 173
    · have := (gt_ds (hd e (by omega) c1) hr).1
      cases this with
      | inl z => omega
      | inr z => exact z he
    · obtain ⟨c, hc⟩ := Nat.dvd_of_mod_eq_zero hr
      have hc0 : c ≠ 0 := fun z => by rw [z, Nat.mul_zero] at hc; omega
      have hc1 : c ≠ 1 := fun z => by rw [z, Nat.mul_one] at hc; omega
      have hc2 : c ≤ 173 := by
        by_cases z : c ≤ 173
        · exact z
        · have : 174 * 174 ≤ e * c := Nat.mul_le_mul (by omega) (by omega)
          omega
      have hq : n / c = e := by rw [hc]; exact Nat.mul_div_cancel e (by omega)
      have := (gt_ds (hd c (by omega) hc2) (by rw [hc]; exact Nat.mul_mod_left e c)).2
      rw [hq] at this
      cases this with
      | inl z => exact hc1 z
      | inr z => exact z he
theorem gn_lock {N g0 : Nat} (hN : N ≤ 30000) (hp : nt_Pr N) (h0 : g0 < N) (hg : ∀ j, 1 ≤ j → j < N - 1 → g0 ^ j % N ≠ 1) : ∀ (t g : Nat), g + t = g0 → 1 ≤ g → ∃ q : Int32, (∀ post : Int32 → Prop, post q → wX_generator_15 post (nI N) (t + 1) (nI g)) ∧ (∀ post : Int32 → Prop, post q → wY_generator_16 post (nI N) (t + 1) (nI g)) := by
  have hN2 := hp.1
  intro t
  induction t with
  | zero =>
    intro g hgt g1
    have e0 : g = g0 := by omega
    have hnd : ¬ N ∣ g := fun z => by
      have := Nat.le_of_dvd (by omega) z
      omega
    obtain ⟨j, j1, jN, hj⟩ := nt_ord_ex (b := g) hN2 (nt_cop hp hnd).symm
    obtain ⟨e, ⟨e1, he⟩, hl⟩ := pk_least (fun e => 1 ≤ e ∧ g ^ e % N = 1) ⟨j, j1, hj⟩
    have hej : e ≤ j := Nat.le_of_not_lt fun z => hl j z ⟨j1, hj⟩
    have hlast : e = N - 1 := by
      by_cases z : e < N - 1
      · rw [e0] at he; exact absurd he (hg e e1 z)
      · omega
    have hs : nI N - 1 = nI (N - 1) := pk_sub (b := 1) (by omega)
    have hb : ¬ nI N ≤ nI g := nI_ge (by omega) (by omega)
    refine ⟨nI g, fun post hq => br_f hb (wk_seX (by omega) hN (by omega) (fun e' a b c d => ?_) (fun hno => absurd hj (hno j j1 jN))), fun post hq => ?_⟩
    · have : e' = e := by
        by_cases z : e' < e
        · exact absurd ⟨a, c⟩ (hl e' z)
        · by_cases w : e < e'
          · exact absurd he (d e e1 w)
          · omega
      exact br_t (by rw [hs, this, hlast]) hq
    · rw [wY_generator_16]
      exact wk_ooY (by omega) hN (by omega) (by omega) e1 he (fun j a b c => hl j b ⟨a, c⟩) (br_t (by rw [hs, hlast]) hq)
  | succ t ih =>
    intro g hgt g1
    have hnd : ¬ N ∣ g := fun z => by
      have := Nat.le_of_dvd (by omega) z
      omega
    obtain ⟨j, j1, jN, hj⟩ := nt_ord_ex (b := g) hN2 (nt_cop hp hnd).symm
    obtain ⟨e, ⟨e1, he⟩, hl⟩ := pk_least (fun e => 1 ≤ e ∧ g ^ e % N = 1) ⟨j, j1, hj⟩
    have hej : e ≤ j := Nat.le_of_not_lt fun z => hl j z ⟨j1, hj⟩
    have hs : nI N - 1 = nI (N - 1) := pk_sub (b := 1) (by omega)
    have hb : ¬ nI N ≤ nI g := nI_ge (by omega) (by omega)
    have hu : ∀ e', 1 ≤ e' → g ^ e' % N = 1 → (∀ j, 1 ≤ j → j < e' → g ^ j % N ≠ 1) → e' = e := fun e' a c d => by
      by_cases z : e' < e
      · exact absurd ⟨a, c⟩ (hl e' z)
      · by_cases w : e < e'
        · exact absurd he (d e e1 w)
        · omega
    have hl' : ∀ j, 1 ≤ j → j < e → g ^ j % N ≠ 1 := fun j a b c => hl j b ⟨a, c⟩
    by_cases hlast : e = N - 1
    · refine ⟨nI g, fun post hq => br_f hb (wk_seX (by omega) hN (by omega) (fun e' a b c d => br_t (by rw [hs, hu e' a c d, hlast]) hq) (fun hno => absurd hj (hno j j1 jN))), fun post hq => ?_⟩
      rw [wY_generator_16]
      exact wk_ooY (by omega) hN (by omega) (by omega) e1 he hl' (br_t (by rw [hs, hlast]) hq)
    · obtain ⟨q, hX, hY⟩ := ih (g + 1) (by omega) (by omega)
      have hne : ¬ nI e = nI N - 1 := fun z => by
        rw [hs] at z
        exact hlast ((nI_eq (by omega) (by omega)).mp z)
      refine ⟨q, fun post hq => br_f hb (wk_seX (by omega) hN (by omega) (fun e' a b c d => br_f (by rw [hu e' a c d]; exact hne) (nm_r (nI_1 g) (hX post hq))) (fun hno => absurd hj (hno j j1 jN))), fun post hq => ?_⟩
      rw [wY_generator_16]
      exact wk_ooY (by omega) hN (by omega) (by omega) e1 he hl' (br_f hne (nm_r (nI_1 g) (hY post hq)))
