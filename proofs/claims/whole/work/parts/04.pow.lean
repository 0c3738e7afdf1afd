/-! gcd, power, order, root -/
theorem wk_arg {x : Int32} (h0 : ¬ x < 0) (h : x ≤ 30000) : ∃ j : Nat, j ≤ 30000 ∧ x = nI j :=
  nI_of2 (M := 30000) (n := 30000) (by decide) h0 h
theorem wk_gcd (f : Int32) {post : Int32 → Prop} : ∀ (n p q : Nat), p < n → p < 2 ^ 31 → q < 2 ^ 31 → post (nI (Nat.gcd p q)) → wY_common_5 post f n (nI p) (nI q) := by
  intro n
  induction n with
  | zero => intro p q h; omega
  | succ n ih =>
    intro p q hn hp hq hh
    refine pk_eq p 0 (fun h => ?_) (fun h => ?_) rfl rfl hp (by omega)
    · rw [h, Nat.gcd_zero_left] at hh
      exact hh
    · have hl : q % p < p := Nat.mod_lt q (by omega)
      refine And.intro (nI_ne0 (by omega) hp) (nm_r (pk_rem hq (by omega) hp) (ih (q % p) p (by omega) (by omega) hp ?_))
      rw [← Nat.gcd_rec]
      exact hh
theorem wk_gcdY (f : Int32) {post : Int32 → Prop} {p q : Nat} (hp : p < 2 ^ 31) (hq : q < 2 ^ 31) (h : post (nI (Nat.gcd p q))) : wpY_common post f (nI p) (nI q) :=
  ⟨p + 1, wk_gcd f (p + 1) p q (by omega) hp hq h⟩
theorem wk_prod {a b : Nat} (ha : a ≤ 30000) (hb : b ≤ 30000) : a * b < 2 ^ 31 := by
  have := Nat.mul_le_mul ha hb
  omega
theorem wk_mX {N r b : Nat} (h1 : 1 ≤ N) (hN : N ≤ 30000) (hr : r ≤ 30000) (hb : b ≤ 30000) : nI r * nI b - nI r * nI b / nI N * nI N = nI (r * b % N) := by
  rw [pk_mul]
  exact pk_rem (wk_prod hr hb) (by omega) (by omega)
theorem wk_mY {N r b : Nat} (h1 : 1 ≤ N) (hN : N ≤ 30000) (hr : r ≤ 30000) (hb : b ≤ 30000) : nI r * (nI b - nI b / nI N * nI N) - nI r * (nI b - nI b / nI N * nI N) / nI N * nI N = nI (r * b % N) := by
  have hm : b % N < N := Nat.mod_lt b (by omega)
  rw [pk_rem (a := b) (d := N) (by omega) (by omega) (by omega), wk_mX h1 hN hr (by omega), Nat.mul_mod_mod]
theorem wk_pw {N b E : Nat} (h1 : 1 ≤ N) (hN : N ≤ 30000) (hb : b ≤ 30000) (hE : E ≤ 30000) : ∀ (t i r : Nat), i + t = E → r ≤ 30000 → ∃ q : Int32, (∀ post : Int32 → Prop, post q → wX_power_28 post (nI b) (nI E) (nI N) (t + 1) (nI r) (nI i)) ∧ (∀ post : Int32 → Prop, post q → wY_power_34 post (nI b) (nI E) (nI N) (t + 1) (nI r) (nI i)) := by
  intro t
  induction t with
  | zero =>
    intro i r hi hr
    have h : nI E ≤ nI i := nI_le (by omega) (by omega)
    exact ⟨nI r, fun _ hp => br_t h hp, fun _ hp => br_t h hp⟩
  | succ t ih =>
    intro i r hi hr
    have h : ¬ nI E ≤ nI i := nI_ge (by omega) (by omega)
    have hn : ¬ nI N = 0 := nI_ne0 (by omega) (by omega)
    have hm : r * b % N < N := Nat.mod_lt _ (by omega)
    obtain ⟨q, hX, hY⟩ := ih (i + 1) (r * b % N) (by omega) (by omega)
    exact ⟨q, fun post hp => br_f h ⟨hn, nm_r (wk_mX h1 hN hr hb) (nm_r (nI_1 i) (hX post hp))⟩, fun post hp => br_f h ⟨hn, hn, nm_r (wk_mY h1 hN hr hb) (nm_r (nI_1 i) (hY post hp))⟩⟩
/-! orders -/
theorem wk_se {N b : Nat} (h1 : 1 ≤ N) (hN : N ≤ 30000) (hb : b ≤ 30000) {post : Int32 → Prop} (hy : ∀ e, 1 ≤ e → e < N → b ^ e % N = 1 → (∀ j, 1 ≤ j → j < e → b ^ j % N ≠ 1) → post (nI e)) (hn : (∀ j, 1 ≤ j → j < N → b ^ j % N ≠ 1) → post (-2)) : ∀ (n e r : Nat), 1 ≤ e → e ≤ N → N < n + e → r ≤ 30000 → r * b % N = b ^ e % N → (∀ j, 1 ≤ j → j < e → b ^ j % N ≠ 1) → wX_smallestExponent_4 post (nI b) (nI N) n (nI r) (nI e) := by
  intro n
  induction n with
  | zero => intro e r _ h2 h3; omega
  | succ n ih =>
    intro e r he heN hf hr hm hI
    have hl : b ^ e % N < N := Nat.mod_lt _ (by omega)
    refine pk_le N e (fun h => hn (fun j a c => hI j a (by omega))) (fun h => And.intro (nI_ne0 (by omega) (by omega)) (nm_r ((wk_mX h1 hN hr hb).trans (congrArg nI hm)) (pk_eq (b ^ e % N) 1 (fun h' => hy e he h h' hI) (fun h' => nm_r (nI_1 e) (ih (e + 1) (b ^ e % N) (by omega) (by omega) (by omega) (by omega) ?_ (fun j a c => ?_))) rfl rfl (by omega) (by omega)))) rfl rfl (by omega) (by omega)
    · rw [Nat.mod_mul_mod, Nat.pow_succ]
    · by_cases q : j = e
      · rw [q]; exact h'
      · exact hI j a (by omega)
theorem wk_seX {N b : Nat} (h1 : 1 ≤ N) (hN : N ≤ 30000) (hb : b ≤ 30000) {post : Int32 → Prop} (hy : ∀ e, 1 ≤ e → e < N → b ^ e % N = 1 → (∀ j, 1 ≤ j → j < e → b ^ j % N ≠ 1) → post (nI e)) (hn : (∀ j, 1 ≤ j → j < N → b ^ j % N ≠ 1) → post (-2)) : wpX_smallestExponent post (nI N) (nI b) :=
  ⟨N + 1, wk_se h1 hN hb hy hn (N + 1) 1 1 (by omega) h1 (by omega) (by omega) (by rw [Nat.one_mul, Nat.pow_one]) (fun j a c => by omega)⟩
theorem wk_oo {N b e0 : Nat} (h1 : 1 ≤ N) (hN : N ≤ 30000) (hb : b ≤ 30000) (h0 : e0 < 2 ^ 30) (he0 : b ^ e0 % N = 1) (hl : ∀ j, 1 ≤ j → j < e0 → b ^ j % N ≠ 1) {post : Int32 → Prop} (hp : post (nI e0)) : ∀ (n e : Nat), 1 ≤ e → e ≤ e0 → e0 < n + e → wY_orderOf_9 post (nI b) (nI N) n (nI (b ^ e % N)) (nI e) := by
  intro n
  induction n with
  | zero => intro e _ a c; omega
  | succ n ih =>
    intro e he hee hf
    have hlt : b ^ e % N < N := Nat.mod_lt _ (by omega)
    have hne : ¬ nI N = 0 := nI_ne0 (by omega) (by omega)
    refine pk_eq (b ^ e % N) 1 (fun h => ?_) (fun h => And.intro hne (And.intro hne (nm_r (e' := nI (b ^ (e + 1) % N)) ?_ (nm_r (nI_1 e) (ih (e + 1) (by omega) ?_ (by omega)))))) rfl rfl (by omega) (by omega)
    · have : e = e0 := by
        by_cases q : e = e0
        · exact q
        · exact absurd h (hl e he (by omega))
      rw [this]; exact hp
    · rw [wk_mY h1 hN (by omega) hb, Nat.mod_mul_mod, ← Nat.pow_succ]
    · by_cases q : e = e0
      · rw [q] at h; exact absurd he0 h
      · omega
theorem wk_ooY {N b e0 : Nat} (h1 : 1 ≤ N) (hN : N ≤ 30000) (hb : b ≤ 30000) (h0 : e0 < 2 ^ 30) (h01 : 1 ≤ e0) (he0 : b ^ e0 % N = 1) (hl : ∀ j, 1 ≤ j → j < e0 → b ^ j % N ≠ 1) {post : Int32 → Prop} (hp : post (nI e0)) : wpY_orderOf post (nI N) (nI b) :=
  And.intro (nI_ne0 (by omega) (by omega)) (nm_r (e' := nI (b ^ 1 % N)) (by rw [Nat.pow_one]; exact pk_rem (by omega) (by omega) (by omega)) ⟨e0 + 1, wk_oo h1 hN hb h0 he0 hl hp (e0 + 1) 1 (by omega) h01 (by omega)⟩)
/-! root -/
theorem wk_rt {N : Nat} (hN : N ≤ 30000) (hp : nt_Pr N) (a : Int32) : ∀ (t x : Nat), x + t = N → ∃ q : Int32, (∀ post : Int32 → Prop, post q → wX_root_32 post (a - a / nI N * nI N) (nI N) (t + 1) (nI x)) ∧ (∀ post : Int32 → Prop, post q → wY_root_15 post a (nI N) (t + 1) (nI x)) := by
  intro t
  induction t with
  | zero =>
    intro x hx
    have h : nI N ≤ nI x := nI_le (by omega) (by omega)
    exact ⟨-2, fun _ hp => br_t h hp, fun _ hp => br_t h hp⟩
  | succ t ih =>
    intro x hx
    have h : ¬ nI N ≤ nI x := nI_ge (by omega) (by omega)
    have hn : ¬ nI N = 0 := nI_ne0 (by omega) (by omega)
    by_cases z : nI x * nI x - nI x * nI x / nI N * nI N = a - a / nI N * nI N
    · exact ⟨nI x, fun post hq => br_f h ⟨hn, br_t z hq⟩, fun post hq => br_f h (wk_pY _ (by omega) (fun _ => br_f (by decide) ⟨hn, hn, br_t z hq⟩) (fun w => absurd hp w))⟩
    · obtain ⟨q, hX, hY⟩ := ih (x + 1) (by omega)
      exact ⟨q, fun post hq => br_f h ⟨hn, br_f z (nm_r (nI_1 x) (hX post hq))⟩, fun post hq => br_f h (wk_pY _ (by omega) (fun _ => br_f (by decide) ⟨hn, hn, br_f z (nm_r (nI_1 x) (hY post hq))⟩) (fun w => absurd hp w))⟩
/-! the next prime -/
theorem nt_chk {p d : Nat} (h2 : 2 ≤ p) (h : p < d * d) (hd : ∀ e, e < d → 2 ≤ e → p % e ≠ 0) : nt_Pr p :=
  nt_big h2 h (fun e a b c => hd e b a (Nat.mod_eq_zero_of_dvd c))
theorem nt_p2 : nt_Pr 2 := nt_chk (d := 2) (by decide) (by decide) (by decide +kernel)
theorem nt_p3 : nt_Pr 3 := nt_chk (d := 2) (by decide) (by decide) (by decide +kernel)
theorem nt_p5 : nt_Pr 5 := nt_chk (d := 3) (by decide) (by decide) (by decide +kernel)
theorem nt_p7 : nt_Pr 7 := nt_chk (d := 3) (by decide) (by decide) (by decide +kernel)
theorem nt_p13 : nt_Pr 13 := nt_chk (d := 4) (by decide) (by decide) (by decide +kernel)
theorem nt_p23 : nt_Pr 23 := nt_chk (d := 5) (by decide) (by decide) (by decide +kernel)
theorem nt_p43 : nt_Pr 43 := nt_chk (d := 7) (by decide) (by decide) (by decide +kernel)
theorem nt_p83 : nt_Pr 83 := nt_chk (d := 10) (by decide) (by decide) (by decide +kernel)
theorem nt_p163 : nt_Pr 163 := nt_chk (d := 13) (by decide) (by decide) (by decide +kernel)
theorem nt_p317 : nt_Pr 317 := nt_chk (d := 18) (by decide) (by decide) (by decide +kernel)
theorem nt_p631 : nt_Pr 631 := nt_chk (d := 26) (by decide) (by decide) (by decide +kernel)
theorem nt_p1259 : nt_Pr 1259 := nt_chk (d := 36) (by decide) (by decide) (by decide +kernel)
theorem nt_p2503 : nt_Pr 2503 := nt_chk (d := 51) (by decide) (by decide) (by decide +kernel)
theorem nt_p5003 : nt_Pr 5003 := nt_chk (d := 71) (by decide) (by decide) (by decide +kernel)
theorem nt_p9973 : nt_Pr 9973 := nt_chk (d := 100) (by decide) (by decide) (by decide +kernel)
theorem nt_p19937 : nt_Pr 19937 := nt_chk (d := 142) (by decide) (by decide) (by decide +kernel)
theorem nt_p39869 : nt_Pr 39869 := nt_chk (d := 200) (by decide) (by decide) (by decide +kernel)
theorem nt_bert {n : Nat} (h1 : 1 ≤ n) (h2 : n ≤ 30000) : ∃ p, n < p ∧ p ≤ 2 * n ∧ nt_Pr p := by
  by_cases c2 : n < 2
  · exact ⟨2, c2, by omega, nt_p2⟩
  by_cases c3 : n < 3
  · exact ⟨3, c3, by omega, nt_p3⟩
  by_cases c5 : n < 5
  · exact ⟨5, c5, by omega, nt_p5⟩
  by_cases c7 : n < 7
  · exact ⟨7, c7, by omega, nt_p7⟩
  by_cases c13 : n < 13
  · exact ⟨13, c13, by omega, nt_p13⟩
  by_cases c23 : n < 23
  · exact ⟨23, c23, by omega, nt_p23⟩
  by_cases c43 : n < 43
  · exact ⟨43, c43, by omega, nt_p43⟩
  by_cases c83 : n < 83
  · exact ⟨83, c83, by omega, nt_p83⟩
  by_cases c163 : n < 163
  · exact ⟨163, c163, by omega, nt_p163⟩
  by_cases c317 : n < 317
  · exact ⟨317, c317, by omega, nt_p317⟩
  by_cases c631 : n < 631
  · exact ⟨631, c631, by omega, nt_p631⟩
  by_cases c1259 : n < 1259
  · exact ⟨1259, c1259, by omega, nt_p1259⟩
  by_cases c2503 : n < 2503
  · exact ⟨2503, c2503, by omega, nt_p2503⟩
  by_cases c5003 : n < 5003
  · exact ⟨5003, c5003, by omega, nt_p5003⟩
  by_cases c9973 : n < 9973
  · exact ⟨9973, c9973, by omega, nt_p9973⟩
  by_cases c19937 : n < 19937
  · exact ⟨19937, c19937, by omega, nt_p19937⟩
  by_cases c39869 : n < 39869
  · exact ⟨39869, c39869, by omega, nt_p39869⟩
  omega
theorem nt_nx {n : Nat} (h1 : 1 ≤ n) (h2 : n ≤ 30000) : ∃ q, n < q ∧ q ≤ 2 * n ∧ nt_Pr q ∧ ∀ c, n < c → c < q → ¬ nt_Pr c := by
  obtain ⟨p, a, b, hp⟩ := nt_bert h1 h2
  obtain ⟨q, hq, hl⟩ := pk_least (fun c => n < c ∧ nt_Pr c) ⟨p, a, hp⟩
  refine ⟨q, hq.1, ?_, hq.2, fun c h3 h4 h5 => hl c h4 ⟨h3, h5⟩⟩
  by_cases z : p < q
  · exact absurd ⟨a, hp⟩ (hl p z)
  · omega
theorem wk_npX {n q : Nat} (h2 : n ≤ 30000) (hq2 : q ≤ 2 * n) (hq : nt_Pr q) (hl : ∀ c, n < c → c < q → ¬ nt_Pr c) {post : Int32 → Prop} (hp : post (nI q)) : ∀ (t c : Nat), c + t = q → n < c → wX_nextPrime_7 post (nI n) (t + 1) (nI c) := by
  intro t
  induction t with
  | zero =>
    intro c hc hn
    have e : c = q := by omega
    subst e
    exact pk_le (2 * n) c (fun _ => hp) (fun _ => wk_ptX (by omega) (fun _ => br_f (by decide) hp) (fun z => absurd hq z)) (pk_mul 2 n) rfl (by omega) (by omega)
  | succ t ih =>
    intro c hc hn
    have hnp := hl c hn (by omega)
    exact pk_le (2 * n) c (fun h => by omega) (fun _ => wk_ptX (by omega) (fun z => absurd z hnp) (fun _ => br_t rfl (nm_r (nI_1 c) (ih (c + 1) (by omega) (by omega))))) (pk_mul 2 n) rfl (by omega) (by omega)
theorem wk_npY {n q : Nat} (h2 : n ≤ 30000) (hq2 : q ≤ 2 * n) (hq : nt_Pr q) (hl : ∀ c, n < c → c < q → ¬ nt_Pr c) {post : Int32 → Prop} (hp : post (nI q)) : ∀ (t c : Nat), c + t = q → n < c → wY_nextPrime_7 post (nI n) (t + 1) (nI c) := by
  intro t
  induction t with
  | zero =>
    intro c hc hn
    have e : c = q := by omega
    subst e
    rw [wY_nextPrime_7]
    exact wk_pY _ (by omega) (fun _ => br_f (by decide) hp) (fun z => absurd hq z)
  | succ t ih =>
    intro c hc hn
    have hnp := hl c hn (by omega)
    rw [wY_nextPrime_7]
    exact wk_pY _ (by omega) (fun z => absurd z hnp) (fun _ => br_t rfl (nm_r (nI_1 c) (ih (c + 1) (by omega) (by omega))))
