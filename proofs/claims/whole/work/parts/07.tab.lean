/-! each prime up to 30000 has a generator: found by trying, n + 1 being the number -/
def gt_d (n N g d : Nat) : Bool :=
  !(Nat.beq (Nat.mod n d) 0) || ((Nat.beq d n || !(Nat.beq (Nat.mod (Nat.pow g d) N) 1)) && (Nat.beq d 1 || !(Nat.beq (Nat.mod (Nat.pow g (Nat.div n d)) N) 1)))
def gt_t (n N g : Nat) : Nat → Bool
  | 0 => Nat.beq (Nat.mod (Nat.pow g n) N) 1
  | d + 1 => gt_d n N g (Nat.sub 173 d) && gt_t n N g d
def gt_f (n N : Nat) : Nat → Bool
  | 0 => false
  | g + 1 => (Nat.ble (Nat.sub 31 g) n && gt_t n N (Nat.sub 31 g) 173) || gt_f n N g
def gt_c (n N : Nat) : Nat → Bool
  | 0 => false
  | d + 1 => (Nat.beq (Nat.mod N (Nat.sub 173 d)) 0 && Nat.ble (Nat.sub 173 d) n) || gt_c n N d
def gt_ok : Nat → Bool
  | 0 => true
  | n + 1 => gt_c n (Nat.succ n) 172 || gt_f n (Nat.succ n) 31
def gt_al (s : Nat) : Nat → Bool
  | 0 => true
  | k + 1 => gt_al s k && gt_ok (Nat.add s k)
theorem gt_k0 : gt_al 2 1000 = true := by decide +kernel
theorem gt_k1 : gt_al 1002 1000 = true := by decide +kernel
theorem gt_k2 : gt_al 2002 1000 = true := by decide +kernel
theorem gt_k3 : gt_al 3002 1000 = true := by decide +kernel
theorem gt_k4 : gt_al 4002 1000 = true := by decide +kernel
theorem gt_k5 : gt_al 5002 1000 = true := by decide +kernel
theorem gt_k6 : gt_al 6002 1000 = true := by decide +kernel
theorem gt_k7 : gt_al 7002 1000 = true := by decide +kernel
theorem gt_k8 : gt_al 8002 1000 = true := by decide +kernel
theorem gt_k9 : gt_al 9002 1000 = true := by decide +kernel
theorem gt_k10 : gt_al 10002 1000 = true := by decide +kernel
theorem gt_k11 : gt_al 11002 1000 = true := by decide +kernel
theorem gt_k12 : gt_al 12002 1000 = true := by decide +kernel
theorem gt_k13 : gt_al 13002 1000 = true := by decide +kernel
theorem gt_k14 : gt_al 14002 1000 = true := by decide +kernel
theorem gt_k15 : gt_al 15002 1000 = true := by decide +kernel
theorem gt_k16 : gt_al 16002 1000 = true := by decide +kernel
theorem gt_k17 : gt_al 17002 1000 = true := by decide +kernel
theorem gt_k18 : gt_al 18002 1000 = true := by decide +kernel
theorem gt_k19 : gt_al 19002 1000 = true := by decide +kernel
theorem gt_k20 : gt_al 20002 1000 = true := by decide +kernel
theorem gt_k21 : gt_al 21002 1000 = true := by decide +kernel
theorem gt_k22 : gt_al 22002 1000 = true := by decide +kernel
theorem gt_k23 : gt_al 23002 1000 = true := by decide +kernel
theorem gt_k24 : gt_al 24002 1000 = true := by decide +kernel
theorem gt_k25 : gt_al 25002 1000 = true := by decide +kernel
theorem gt_k26 : gt_al 26002 1000 = true := by decide +kernel
theorem gt_k27 : gt_al 27002 1000 = true := by decide +kernel
theorem gt_k28 : gt_al 28002 1000 = true := by decide +kernel
theorem gt_k29 : gt_al 29002 1000 = true := by decide +kernel
