/-! lines of benches as numbers -/
def bitA : Nat → Nat → Nat → Nat
  | 0, _, u => u
  | n + 1, x, u => bitA n (x / 6) (u ||| 1 <<< (x % 6))
def dgN (n x i : Nat) : Nat := x / 6 ^ (n - 1 - i) % 6
def vdB (n x : Nat) : Bool := Nat.beq (bitA n x 0) (2 ^ n - 1)
def dgs (n x : Nat) : List Nat := (List.range n).map (dgN n x)
def mids (n a z : Nat) : List Nat := (List.range n).filter (fun y => !(Nat.beq y a) && !(Nat.beq y z))
def repL (n a z : Nat) : List Nat := if n = 1 then [0] else a :: (mids n a z ++ [z])
def repN (n a z : Nat) : Nat := (repL n a z).foldl (fun s d => 6 * s + d) 0
def injB (n x : Nat) : Bool := (List.range n).all fun i => Nat.blt (dgN n x i) n && (List.range n).all fun j => Nat.beq i j || !(Nat.beq (dgN n x i) (dgN n x j))
def goodB (n x : Nat) : Bool := ((dgs n x).isPerm (List.range n) && injB n x) && Nat.ble (repN n (dgN n x 0) (dgN n x (n - 1))) x
def chkB (n x : Nat) : Bool := !(vdB n x) || goodB n x
def treB (n : Nat) : Nat → Nat → Bool
  | 0, x => chkB n x
  | k + 1, x => treB n k (6 * x) && (treB n k (6 * x + 1) && (treB n k (6 * x + 2) && (treB n k (6 * x + 3) && (treB n k (6 * x + 4) && treB n k (6 * x + 5)))))
theorem treB_spec (n : Nat) : ∀ k x, treB n k x = true → ∀ y, y < 6 ^ k → chkB n (x * 6 ^ k + y) = true := by
  intro k
  induction k with
  | zero =>
    intro x h y hy
    have : y = 0 := by simpa using hy
    subst this
    simpa [treB] using h
  | succ k ih =>
    intro x h y hy
    unfold treB at h
    simp only [Bool.and_eq_true] at h
    obtain ⟨h0, h1, h2, h3, h4, h5⟩ := h
    have hp : 0 < 6 ^ k := Nat.pow_pos (by decide)
    have hd : y / 6 ^ k < 6 := Nat.div_lt_of_lt_mul (by rw [Nat.pow_succ] at hy; exact hy)
    have hm : y % 6 ^ k < 6 ^ k := Nat.mod_lt _ hp
    have e : x * 6 ^ (k + 1) + y = (6 * x + y / 6 ^ k) * 6 ^ k + y % 6 ^ k := by
      have := Nat.div_add_mod y (6 ^ k)
      rw [Nat.pow_succ, Nat.add_mul, Nat.mul_comm (y / 6 ^ k)]
      have e2 : x * (6 ^ k * 6) = 6 * x * 6 ^ k := by rw [Nat.mul_comm (6 ^ k) 6, ← Nat.mul_assoc, Nat.mul_comm x 6]
      omega
    rw [e]
    clear e
    generalize y / 6 ^ k = d at hd ⊢
    generalize y % 6 ^ k = u at hm ⊢
    have : d = 0 ∨ d = 1 ∨ d = 2 ∨ d = 3 ∨ d = 4 ∨ d = 5 := by omega
    rcases this with rfl | rfl | rfl | rfl | rfl | rfl
    · exact ih _ h0 _ hm
    · exact ih _ h1 _ hm
    · exact ih _ h2 _ hm
    · exact ih _ h3 _ hm
    · exact ih _ h4 _ hm
    · exact ih _ h5 _ hm
theorem tre1 : treB 1 1 0 = true := by decide +kernel
theorem tre2 : treB 2 2 0 = true := by decide +kernel
theorem tre3 : treB 3 3 0 = true := by decide +kernel
theorem tre4 : treB 4 4 0 = true := by decide +kernel
theorem tre5 : treB 5 5 0 = true := by decide +kernel
theorem tre6 : treB 6 6 0 = true := by decide +kernel
theorem ln_good {n x : Nat} (h1 : 1 ≤ n) (h6 : n ≤ 6) (hx : x < 6 ^ n) (hv : vdB n x = true) : goodB n x = true := by
  have k : treB n n 0 = true := by
    have : n = 1 ∨ n = 2 ∨ n = 3 ∨ n = 4 ∨ n = 5 ∨ n = 6 := by omega
    rcases this with rfl | rfl | rfl | rfl | rfl | rfl
    · exact tre1
    · exact tre2
    · exact tre3
    · exact tre4
    · exact tre5
    · exact tre6
  have := treB_spec n n 0 k x hx
  rw [Nat.zero_mul, Nat.zero_add] at this
  unfold chkB at this
  rw [hv] at this
  simpa using this
theorem ln_perm {n x : Nat} (h : goodB n x = true) : (dgs n x).Perm (List.range n) := by
  unfold goodB at h
  simp only [Bool.and_eq_true] at h
  exact List.isPerm_iff.1 h.1.1
theorem ln_lt {n x i : Nat} (h : goodB n x = true) (hi : i < n) : dgN n x i < n := by
  unfold goodB at h
  simp only [Bool.and_eq_true] at h
  have := List.all_eq_true.1 h.1.2 i (List.mem_range.2 hi)
  simp only [Bool.and_eq_true] at this
  exact Nat.le_of_ble_eq_true this.1
theorem ln_inj {n x i j : Nat} (h : goodB n x = true) (hi : i < n) (hj : j < n) (hn : i ≠ j) : dgN n x i ≠ dgN n x j := by
  unfold goodB at h
  simp only [Bool.and_eq_true] at h
  have := List.all_eq_true.1 h.1.2 i (List.mem_range.2 hi)
  simp only [Bool.and_eq_true] at this
  have := List.all_eq_true.1 this.2 j (List.mem_range.2 hj)
  intro e
  rw [e, Nat.beq_refl, Bool.not_true, Bool.or_false] at this
  exact hn (Nat.eq_of_beq_eq_true this)
theorem ln_rep {n x : Nat} (h : goodB n x = true) : repN n (dgN n x 0) (dgN n x (n - 1)) ≤ x := by
  unfold goodB at h
  simp only [Bool.and_eq_true] at h
  exact Nat.le_of_ble_eq_true h.2
theorem ln_sur {n x y : Nat} (h : goodB n x = true) (hy : y < n) : ∃ i, i < n ∧ dgN n x i = y := by
  have := (ln_perm h).mem_iff.2 (List.mem_range.2 hy)
  unfold dgs at this
  obtain ⟨i, h1, h2⟩ := List.mem_map.1 this
  exact ⟨i, List.mem_range.1 h1, h2⟩
def sumF (f : Nat → Nat) : Nat → Nat
  | 0 => 0
  | n + 1 => sumF f n + f n
theorem sumF_list (f : Nat → Nat) : ∀ n, ((List.range n).map f).sum = sumF f n := by
  intro n
  induction n with
  | zero => rfl
  | succ n ih =>
    rw [List.range_succ]
    simp [ih, sumF]
theorem ln_sum {n x : Nat} (h : goodB n x = true) (f : Nat → Nat) : sumF (fun i => f (dgN n x i)) n = sumF f n := by
  rw [← sumF_list, ← sumF_list]
  have := ((ln_perm h).map f).sum_nat
  rw [← this]
  unfold dgs
  rw [List.map_map]
  rfl
def bhp (a z : Nat) : am_F := fun _ y => if y = 1 then nI a else nI z
def repB (n a z : Nat) : Bool := (Nat.beq a z && !(Nat.beq n 1)) || ((Nat.blt (repN n a z) (6 ^ n) && vdB n (repN n a z)) && (Nat.beq (dgN n (repN n a z) 0) a && Nat.beq (dgN n (repN n a z) (n - 1)) z)) && (List.range n).all fun i => decide (Pa_benchAt 0 (nI i) (nI n) (bhp a z) = some (nI (dgN n (repN n a z) i)))
def rezB (n a z y : Nat) : Bool := Nat.beq a z || (Nat.beq a y || (Nat.ble z y || Nat.ble (repN n a z) (repN n a y)))
def reaB (n a z b y : Nat) : Bool := Nat.beq a z || (Nat.beq b y || (Nat.ble a b || Nat.ble (repN n b y) (repN n a z)))
theorem rep_1 : ((List.range 7).all fun n => (List.range n).all fun a => (List.range n).all fun z => repB n a z) = true := by decide +kernel
theorem rep_2 : ((List.range 7).all fun n => (List.range n).all fun a => (List.range n).all fun z => (List.range n).all fun y => rezB n a z y) = true := by decide +kernel
theorem rep_3 : ((List.range 7).all fun n => (List.range n).all fun a => (List.range n).all fun z => (List.range n).all fun b => (List.range n).all fun y => reaB n a z b y) = true := by decide +kernel
theorem all_at {n i : Nat} {p : Nat → Bool} (h : ((List.range n).all p) = true) (hi : i < n) : p i = true := List.all_eq_true.1 h i (List.mem_range.2 hi)
theorem rep_facts {n a z : Nat} (hn : n < 7) (ha : a < n) (hz : z < n) (hne : n = 1 ∨ a ≠ z) : (repN n a z < 6 ^ n ∧ vdB n (repN n a z) = true ∧ dgN n (repN n a z) 0 = a ∧ dgN n (repN n a z) (n - 1) = z) ∧ ∀ i, i < n → Pa_benchAt 0 (nI i) (nI n) (bhp a z) = some (nI (dgN n (repN n a z) i)) := by
  have h := all_at (all_at (all_at rep_1 hn) ha) hz
  unfold repB at h
  have h0 : (Nat.beq a z && !(Nat.beq n 1)) = false := by
    rcases hne with rfl | e
    · simp
    · have : Nat.beq a z = false := by
        cases q : Nat.beq a z
        · rfl
        · exact absurd (Nat.eq_of_beq_eq_true q) e
      rw [this]; rfl
  rw [h0, Bool.false_or] at h
  simp only [Bool.and_eq_true] at h
  obtain ⟨⟨⟨h1, h2⟩, h3, h4⟩, h5⟩ := h
  exact ⟨⟨Nat.le_of_ble_eq_true h1, h2, Nat.eq_of_beq_eq_true h3, Nat.eq_of_beq_eq_true h4⟩, fun i hi => of_decide_eq_true (all_at h5 hi)⟩
theorem nbeq {a b : Nat} (h : a ≠ b) : Nat.beq a b = false := by
  cases q : Nat.beq a b
  · rfl
  · exact absurd (Nat.eq_of_beq_eq_true q) h
theorem nble {a b : Nat} (h : b < a) : Nat.ble a b = false := by
  cases q : Nat.ble a b
  · rfl
  · have := Nat.le_of_ble_eq_true q
    omega
theorem rep_z {n a z y : Nat} (hn : n < 7) (ha : a < n) (hz : z < n) (hy : y < z) (h1 : a ≠ z) (h2 : a ≠ y) : repN n a z ≤ repN n a y := by
  have h := all_at (all_at (all_at (all_at rep_2 hn) ha) hz) (show y < n by omega)
  unfold rezB at h
  rw [nbeq h1, nbeq h2, nble hy, Bool.false_or, Bool.false_or, Bool.false_or] at h
  exact Nat.le_of_ble_eq_true h
theorem rep_a {n a z b y : Nat} (hn : n < 7) (ha : a < n) (hz : z < n) (hb : b < a) (hy : y < n) (h1 : a ≠ z) (h2 : b ≠ y) : repN n b y ≤ repN n a z := by
  have h := all_at (all_at (all_at (all_at (all_at rep_3 hn) ha) hz) (show b < n by omega)) hy
  unfold reaB at h
  rw [nbeq h1, nbeq h2, nble hb, Bool.false_or, Bool.false_or, Bool.false_or] at h
  exact Nat.le_of_ble_eq_true h
