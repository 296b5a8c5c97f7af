/-! objects as they lie, class by class: what each owns stands at a fixed distance behind it -/
def Rw_K (l : List (Nat × Nat)) (r : am_R) (a : Nat) : Prop := l[a]? = some (5, 4) ∧ r a 2 = some (a + 1) ∧ l[a + 1]? = some (10, g_ln l (a + 1))
theorem Rw_l {l : List (Nat × Nat)} {r : am_R} {a : Nat} (k : Rw_K l r a) : l[a]? = some (5, 4) := k.1
theorem Rw_r2 {l : List (Nat × Nat)} {r : am_R} {a : Nat} (k : Rw_K l r a) : r a 2 = some (a + 1) := k.2.1
theorem Rw_k2 {l : List (Nat × Nat)} {r : am_R} {a : Nat} (k : Rw_K l r a) : l[a + 1]? = some (10, g_ln l (a + 1)) := k.2.2
def Pk_K (l : List (Nat × Nat)) (r : am_R) (a : Nat) : Prop := l[a]? = some (3, 13) ∧ r a 4 = some (a + 1) ∧ l[a + 1]? = some (10, 48) ∧ r a 5 = some (a + 2) ∧ l[a + 2]? = some (10, 48) ∧ r a 6 = some (a + 3) ∧ l[a + 3]? = some (10, 6) ∧ r a 7 = some (a + 4) ∧ l[a + 4]? = some (10, 6) ∧ r a 8 = some (a + 5) ∧ l[a + 5]? = some (10, 6) ∧ r a 9 = some (a + 6) ∧ l[a + 6]? = some (10, 6) ∧ r a 10 = some (a + 7) ∧ Rw_K l r (a + 7) ∧ r a 11 = some (a + 9) ∧ Rw_K l r (a + 9) ∧ r a 12 = some (a + 11) ∧ Rw_K l r (a + 11)
theorem Pk_l {l : List (Nat × Nat)} {r : am_R} {a : Nat} (k : Pk_K l r a) : l[a]? = some (3, 13) := k.1
theorem Pk_r4 {l : List (Nat × Nat)} {r : am_R} {a : Nat} (k : Pk_K l r a) : r a 4 = some (a + 1) := k.2.1
theorem Pk_k4 {l : List (Nat × Nat)} {r : am_R} {a : Nat} (k : Pk_K l r a) : l[a + 1]? = some (10, 48) := k.2.2.1
theorem Pk_r5 {l : List (Nat × Nat)} {r : am_R} {a : Nat} (k : Pk_K l r a) : r a 5 = some (a + 2) := k.2.2.2.1
theorem Pk_k5 {l : List (Nat × Nat)} {r : am_R} {a : Nat} (k : Pk_K l r a) : l[a + 2]? = some (10, 48) := k.2.2.2.2.1
theorem Pk_r6 {l : List (Nat × Nat)} {r : am_R} {a : Nat} (k : Pk_K l r a) : r a 6 = some (a + 3) := k.2.2.2.2.2.1
theorem Pk_k6 {l : List (Nat × Nat)} {r : am_R} {a : Nat} (k : Pk_K l r a) : l[a + 3]? = some (10, 6) := k.2.2.2.2.2.2.1
theorem Pk_r7 {l : List (Nat × Nat)} {r : am_R} {a : Nat} (k : Pk_K l r a) : r a 7 = some (a + 4) := k.2.2.2.2.2.2.2.1
theorem Pk_k7 {l : List (Nat × Nat)} {r : am_R} {a : Nat} (k : Pk_K l r a) : l[a + 4]? = some (10, 6) := k.2.2.2.2.2.2.2.2.1
theorem Pk_r8 {l : List (Nat × Nat)} {r : am_R} {a : Nat} (k : Pk_K l r a) : r a 8 = some (a + 5) := k.2.2.2.2.2.2.2.2.2.1
theorem Pk_k8 {l : List (Nat × Nat)} {r : am_R} {a : Nat} (k : Pk_K l r a) : l[a + 5]? = some (10, 6) := k.2.2.2.2.2.2.2.2.2.2.1
theorem Pk_r9 {l : List (Nat × Nat)} {r : am_R} {a : Nat} (k : Pk_K l r a) : r a 9 = some (a + 6) := k.2.2.2.2.2.2.2.2.2.2.2.1
theorem Pk_k9 {l : List (Nat × Nat)} {r : am_R} {a : Nat} (k : Pk_K l r a) : l[a + 6]? = some (10, 6) := k.2.2.2.2.2.2.2.2.2.2.2.2.1
theorem Pk_r10 {l : List (Nat × Nat)} {r : am_R} {a : Nat} (k : Pk_K l r a) : r a 10 = some (a + 7) := k.2.2.2.2.2.2.2.2.2.2.2.2.2.1
theorem Pk_k10 {l : List (Nat × Nat)} {r : am_R} {a : Nat} (k : Pk_K l r a) : Rw_K l r (a + 7) := k.2.2.2.2.2.2.2.2.2.2.2.2.2.2.1
theorem Pk_r11 {l : List (Nat × Nat)} {r : am_R} {a : Nat} (k : Pk_K l r a) : r a 11 = some (a + 9) := k.2.2.2.2.2.2.2.2.2.2.2.2.2.2.2.1
theorem Pk_k11 {l : List (Nat × Nat)} {r : am_R} {a : Nat} (k : Pk_K l r a) : Rw_K l r (a + 9) := k.2.2.2.2.2.2.2.2.2.2.2.2.2.2.2.2.1
theorem Pk_r12 {l : List (Nat × Nat)} {r : am_R} {a : Nat} (k : Pk_K l r a) : r a 12 = some (a + 11) := k.2.2.2.2.2.2.2.2.2.2.2.2.2.2.2.2.2.1
theorem Pk_k12 {l : List (Nat × Nat)} {r : am_R} {a : Nat} (k : Pk_K l r a) : Rw_K l r (a + 11) := k.2.2.2.2.2.2.2.2.2.2.2.2.2.2.2.2.2.2
def Dy_K (l : List (Nat × Nat)) (r : am_R) (a : Nat) : Prop := l[a]? = some (0, 15) ∧ r a 3 = some (a + 1) ∧ Rw_K l r (a + 1) ∧ r a 7 = some (a + 3) ∧ l[a + 3]? = some (10, 6) ∧ r a 8 = some (a + 4) ∧ l[a + 4]? = some (10, 6) ∧ r a 9 = some (a + 5) ∧ l[a + 5]? = some (10, 6) ∧ r a 10 = some (a + 6) ∧ l[a + 6]? = some (10, 6) ∧ r a 11 = some (a + 7) ∧ l[a + 7]? = some (10, 6) ∧ r a 12 = some (a + 8) ∧ l[a + 8]? = some (10, 18) ∧ r a 13 = some (a + 9) ∧ l[a + 9]? = some (10, 18)
theorem Dy_l {l : List (Nat × Nat)} {r : am_R} {a : Nat} (k : Dy_K l r a) : l[a]? = some (0, 15) := k.1
theorem Dy_r3 {l : List (Nat × Nat)} {r : am_R} {a : Nat} (k : Dy_K l r a) : r a 3 = some (a + 1) := k.2.1
theorem Dy_k3 {l : List (Nat × Nat)} {r : am_R} {a : Nat} (k : Dy_K l r a) : Rw_K l r (a + 1) := k.2.2.1
theorem Dy_r7 {l : List (Nat × Nat)} {r : am_R} {a : Nat} (k : Dy_K l r a) : r a 7 = some (a + 3) := k.2.2.2.1
theorem Dy_k7 {l : List (Nat × Nat)} {r : am_R} {a : Nat} (k : Dy_K l r a) : l[a + 3]? = some (10, 6) := k.2.2.2.2.1
theorem Dy_r8 {l : List (Nat × Nat)} {r : am_R} {a : Nat} (k : Dy_K l r a) : r a 8 = some (a + 4) := k.2.2.2.2.2.1
theorem Dy_k8 {l : List (Nat × Nat)} {r : am_R} {a : Nat} (k : Dy_K l r a) : l[a + 4]? = some (10, 6) := k.2.2.2.2.2.2.1
theorem Dy_r9 {l : List (Nat × Nat)} {r : am_R} {a : Nat} (k : Dy_K l r a) : r a 9 = some (a + 5) := k.2.2.2.2.2.2.2.1
theorem Dy_k9 {l : List (Nat × Nat)} {r : am_R} {a : Nat} (k : Dy_K l r a) : l[a + 5]? = some (10, 6) := k.2.2.2.2.2.2.2.2.1
theorem Dy_r10 {l : List (Nat × Nat)} {r : am_R} {a : Nat} (k : Dy_K l r a) : r a 10 = some (a + 6) := k.2.2.2.2.2.2.2.2.2.1
theorem Dy_k10 {l : List (Nat × Nat)} {r : am_R} {a : Nat} (k : Dy_K l r a) : l[a + 6]? = some (10, 6) := k.2.2.2.2.2.2.2.2.2.2.1
theorem Dy_r11 {l : List (Nat × Nat)} {r : am_R} {a : Nat} (k : Dy_K l r a) : r a 11 = some (a + 7) := k.2.2.2.2.2.2.2.2.2.2.2.1
theorem Dy_k11 {l : List (Nat × Nat)} {r : am_R} {a : Nat} (k : Dy_K l r a) : l[a + 7]? = some (10, 6) := k.2.2.2.2.2.2.2.2.2.2.2.2.1
theorem Dy_r12 {l : List (Nat × Nat)} {r : am_R} {a : Nat} (k : Dy_K l r a) : r a 12 = some (a + 8) := k.2.2.2.2.2.2.2.2.2.2.2.2.2.1
theorem Dy_k12 {l : List (Nat × Nat)} {r : am_R} {a : Nat} (k : Dy_K l r a) : l[a + 8]? = some (10, 18) := k.2.2.2.2.2.2.2.2.2.2.2.2.2.2.1
theorem Dy_r13 {l : List (Nat × Nat)} {r : am_R} {a : Nat} (k : Dy_K l r a) : r a 13 = some (a + 9) := k.2.2.2.2.2.2.2.2.2.2.2.2.2.2.2.1
theorem Dy_k13 {l : List (Nat × Nat)} {r : am_R} {a : Nat} (k : Dy_K l r a) : l[a + 9]? = some (10, 18) := k.2.2.2.2.2.2.2.2.2.2.2.2.2.2.2.2
def Fi_K (l : List (Nat × Nat)) (r : am_R) (a : Nat) : Prop := l[a]? = some (1, 7) ∧ r a 1 = some (a + 1) ∧ l[a + 1]? = some (10, 3) ∧ r a 2 = some (a + 2) ∧ l[a + 2]? = some (10, 8) ∧ r a 3 = some (a + 3) ∧ l[a + 3]? = some (10, 8) ∧ (∀ p, r a 6 = some p → Pk_K l r p)
theorem Fi_l {l : List (Nat × Nat)} {r : am_R} {a : Nat} (k : Fi_K l r a) : l[a]? = some (1, 7) := k.1
theorem Fi_r1 {l : List (Nat × Nat)} {r : am_R} {a : Nat} (k : Fi_K l r a) : r a 1 = some (a + 1) := k.2.1
theorem Fi_k1 {l : List (Nat × Nat)} {r : am_R} {a : Nat} (k : Fi_K l r a) : l[a + 1]? = some (10, 3) := k.2.2.1
theorem Fi_r2 {l : List (Nat × Nat)} {r : am_R} {a : Nat} (k : Fi_K l r a) : r a 2 = some (a + 2) := k.2.2.2.1
theorem Fi_k2 {l : List (Nat × Nat)} {r : am_R} {a : Nat} (k : Fi_K l r a) : l[a + 2]? = some (10, 8) := k.2.2.2.2.1
theorem Fi_r3 {l : List (Nat × Nat)} {r : am_R} {a : Nat} (k : Fi_K l r a) : r a 3 = some (a + 3) := k.2.2.2.2.2.1
theorem Fi_k3 {l : List (Nat × Nat)} {r : am_R} {a : Nat} (k : Fi_K l r a) : l[a + 3]? = some (10, 8) := k.2.2.2.2.2.2.1
theorem Fi_n6 {l : List (Nat × Nat)} {r : am_R} {a : Nat} (k : Fi_K l r a) : (∀ p, r a 6 = some p → Pk_K l r p) := k.2.2.2.2.2.2.2
def Pa_K (l : List (Nat × Nat)) (r : am_R) (a : Nat) : Prop := l[a]? = some (2, 3)
theorem Pa_l {l : List (Nat × Nat)} {r : am_R} {a : Nat} (k : Pa_K l r a) : l[a]? = some (2, 3) := k
def Tl_K (l : List (Nat × Nat)) (r : am_R) (a : Nat) : Prop := l[a]? = some (6, 7) ∧ r a 0 = some (a + 1) ∧ l[a + 1]? = some (11, 600) ∧ r a 4 = some (a + 2) ∧ l[a + 2]? = some (10, 4) ∧ r a 5 = some (a + 3) ∧ l[a + 3]? = some (13, 2) ∧ (∀ i p, r (a + 3) i = some p → Pk_K l r p) ∧ r a 6 = some (a + 4) ∧ l[a + 4]? = some (14, 8) ∧ (∀ i p, r (a + 4) i = some p → Rw_K l r p)
theorem Tl_l {l : List (Nat × Nat)} {r : am_R} {a : Nat} (k : Tl_K l r a) : l[a]? = some (6, 7) := k.1
theorem Tl_r0 {l : List (Nat × Nat)} {r : am_R} {a : Nat} (k : Tl_K l r a) : r a 0 = some (a + 1) := k.2.1
theorem Tl_k0 {l : List (Nat × Nat)} {r : am_R} {a : Nat} (k : Tl_K l r a) : l[a + 1]? = some (11, 600) := k.2.2.1
theorem Tl_r4 {l : List (Nat × Nat)} {r : am_R} {a : Nat} (k : Tl_K l r a) : r a 4 = some (a + 2) := k.2.2.2.1
theorem Tl_k4 {l : List (Nat × Nat)} {r : am_R} {a : Nat} (k : Tl_K l r a) : l[a + 2]? = some (10, 4) := k.2.2.2.2.1
theorem Tl_r5 {l : List (Nat × Nat)} {r : am_R} {a : Nat} (k : Tl_K l r a) : r a 5 = some (a + 3) := k.2.2.2.2.2.1
theorem Tl_k5 {l : List (Nat × Nat)} {r : am_R} {a : Nat} (k : Tl_K l r a) : l[a + 3]? = some (13, 2) := k.2.2.2.2.2.2.1
theorem Tl_e5 {l : List (Nat × Nat)} {r : am_R} {a : Nat} (k : Tl_K l r a) : (∀ i p, r (a + 3) i = some p → Pk_K l r p) := k.2.2.2.2.2.2.2.1
theorem Tl_r6 {l : List (Nat × Nat)} {r : am_R} {a : Nat} (k : Tl_K l r a) : r a 6 = some (a + 4) := k.2.2.2.2.2.2.2.2.1
theorem Tl_k6 {l : List (Nat × Nat)} {r : am_R} {a : Nat} (k : Tl_K l r a) : l[a + 4]? = some (14, 8) := k.2.2.2.2.2.2.2.2.2.1
theorem Tl_e6 {l : List (Nat × Nat)} {r : am_R} {a : Nat} (k : Tl_K l r a) : (∀ i p, r (a + 4) i = some p → Rw_K l r p) := k.2.2.2.2.2.2.2.2.2.2
def Rd_K (l : List (Nat × Nat)) (r : am_R) (a : Nat) : Prop := l[a]? = some (4, 14) ∧ r a 0 = some (a + 1) ∧ Pk_K l r (a + 1) ∧ r a 1 = some (a + 14) ∧ Rw_K l r (a + 14) ∧ r a 2 = some (a + 16) ∧ Rw_K l r (a + 16) ∧ r a 3 = some (a + 18) ∧ Rw_K l r (a + 18) ∧ r a 6 = some (a + 20) ∧ l[a + 20]? = some (10, 6) ∧ (∀ p, r a 7 = some p → l[p]? = some (11, g_ln l p))
theorem Rd_l {l : List (Nat × Nat)} {r : am_R} {a : Nat} (k : Rd_K l r a) : l[a]? = some (4, 14) := k.1
theorem Rd_r0 {l : List (Nat × Nat)} {r : am_R} {a : Nat} (k : Rd_K l r a) : r a 0 = some (a + 1) := k.2.1
theorem Rd_k0 {l : List (Nat × Nat)} {r : am_R} {a : Nat} (k : Rd_K l r a) : Pk_K l r (a + 1) := k.2.2.1
theorem Rd_r1 {l : List (Nat × Nat)} {r : am_R} {a : Nat} (k : Rd_K l r a) : r a 1 = some (a + 14) := k.2.2.2.1
theorem Rd_k1 {l : List (Nat × Nat)} {r : am_R} {a : Nat} (k : Rd_K l r a) : Rw_K l r (a + 14) := k.2.2.2.2.1
theorem Rd_r2 {l : List (Nat × Nat)} {r : am_R} {a : Nat} (k : Rd_K l r a) : r a 2 = some (a + 16) := k.2.2.2.2.2.1
theorem Rd_k2 {l : List (Nat × Nat)} {r : am_R} {a : Nat} (k : Rd_K l r a) : Rw_K l r (a + 16) := k.2.2.2.2.2.2.1
theorem Rd_r3 {l : List (Nat × Nat)} {r : am_R} {a : Nat} (k : Rd_K l r a) : r a 3 = some (a + 18) := k.2.2.2.2.2.2.2.1
theorem Rd_k3 {l : List (Nat × Nat)} {r : am_R} {a : Nat} (k : Rd_K l r a) : Rw_K l r (a + 18) := k.2.2.2.2.2.2.2.2.1
theorem Rd_r6 {l : List (Nat × Nat)} {r : am_R} {a : Nat} (k : Rd_K l r a) : r a 6 = some (a + 20) := k.2.2.2.2.2.2.2.2.2.1
theorem Rd_k6 {l : List (Nat × Nat)} {r : am_R} {a : Nat} (k : Rd_K l r a) : l[a + 20]? = some (10, 6) := k.2.2.2.2.2.2.2.2.2.2.1
theorem Rd_n7 {l : List (Nat × Nat)} {r : am_R} {a : Nat} (k : Rd_K l r a) : (∀ p, r a 7 = some p → l[p]? = some (11, g_ln l p)) := k.2.2.2.2.2.2.2.2.2.2.2
def Tr_K (l : List (Nat × Nat)) (r : am_R) (a : Nat) : Prop := l[a]? = some (7, 5) ∧ r a 2 = some (a + 1) ∧ Dy_K l r (a + 1) ∧ r a 3 = some (a + 11) ∧ Pk_K l r (a + 11)
theorem Tr_l {l : List (Nat × Nat)} {r : am_R} {a : Nat} (k : Tr_K l r a) : l[a]? = some (7, 5) := k.1
theorem Tr_r2 {l : List (Nat × Nat)} {r : am_R} {a : Nat} (k : Tr_K l r a) : r a 2 = some (a + 1) := k.2.1
theorem Tr_k2 {l : List (Nat × Nat)} {r : am_R} {a : Nat} (k : Tr_K l r a) : Dy_K l r (a + 1) := k.2.2.1
theorem Tr_r3 {l : List (Nat × Nat)} {r : am_R} {a : Nat} (k : Tr_K l r a) : r a 3 = some (a + 11) := k.2.2.2.1
theorem Tr_k3 {l : List (Nat × Nat)} {r : am_R} {a : Nat} (k : Tr_K l r a) : Pk_K l r (a + 11) := k.2.2.2.2
def Wp_K (l : List (Nat × Nat)) (r : am_R) (a : Nat) : Prop := l[a]? = some (8, 7) ∧ r a 0 = some (a + 1) ∧ Tl_K l r (a + 1) ∧ r a 1 = some (a + 44) ∧ l[a + 44]? = some (15, 3) ∧ (∀ i p, r (a + 44) i = some p → Tl_K l r p) ∧ r a 2 = some (a + 45) ∧ Rd_K l r (a + 45) ∧ r a 3 = some (a + 66) ∧ Dy_K l r (a + 66) ∧ r a 4 = some (a + 76) ∧ Tr_K l r (a + 76) ∧ r a 5 = some (a + 100) ∧ Fi_K l r (a + 100) ∧ r a 6 = some (a + 104) ∧ Pa_K l r (a + 104)
theorem Wp_l {l : List (Nat × Nat)} {r : am_R} {a : Nat} (k : Wp_K l r a) : l[a]? = some (8, 7) := k.1
theorem Wp_r0 {l : List (Nat × Nat)} {r : am_R} {a : Nat} (k : Wp_K l r a) : r a 0 = some (a + 1) := k.2.1
theorem Wp_k0 {l : List (Nat × Nat)} {r : am_R} {a : Nat} (k : Wp_K l r a) : Tl_K l r (a + 1) := k.2.2.1
theorem Wp_r1 {l : List (Nat × Nat)} {r : am_R} {a : Nat} (k : Wp_K l r a) : r a 1 = some (a + 44) := k.2.2.2.1
theorem Wp_k1 {l : List (Nat × Nat)} {r : am_R} {a : Nat} (k : Wp_K l r a) : l[a + 44]? = some (15, 3) := k.2.2.2.2.1
theorem Wp_e1 {l : List (Nat × Nat)} {r : am_R} {a : Nat} (k : Wp_K l r a) : (∀ i p, r (a + 44) i = some p → Tl_K l r p) := k.2.2.2.2.2.1
theorem Wp_r2 {l : List (Nat × Nat)} {r : am_R} {a : Nat} (k : Wp_K l r a) : r a 2 = some (a + 45) := k.2.2.2.2.2.2.1
theorem Wp_k2 {l : List (Nat × Nat)} {r : am_R} {a : Nat} (k : Wp_K l r a) : Rd_K l r (a + 45) := k.2.2.2.2.2.2.2.1
theorem Wp_r3 {l : List (Nat × Nat)} {r : am_R} {a : Nat} (k : Wp_K l r a) : r a 3 = some (a + 66) := k.2.2.2.2.2.2.2.2.1
theorem Wp_k3 {l : List (Nat × Nat)} {r : am_R} {a : Nat} (k : Wp_K l r a) : Dy_K l r (a + 66) := k.2.2.2.2.2.2.2.2.2.1
theorem Wp_r4 {l : List (Nat × Nat)} {r : am_R} {a : Nat} (k : Wp_K l r a) : r a 4 = some (a + 76) := k.2.2.2.2.2.2.2.2.2.2.1
theorem Wp_k4 {l : List (Nat × Nat)} {r : am_R} {a : Nat} (k : Wp_K l r a) : Tr_K l r (a + 76) := k.2.2.2.2.2.2.2.2.2.2.2.1
theorem Wp_r5 {l : List (Nat × Nat)} {r : am_R} {a : Nat} (k : Wp_K l r a) : r a 5 = some (a + 100) := k.2.2.2.2.2.2.2.2.2.2.2.2.1
theorem Wp_k5 {l : List (Nat × Nat)} {r : am_R} {a : Nat} (k : Wp_K l r a) : Fi_K l r (a + 100) := k.2.2.2.2.2.2.2.2.2.2.2.2.2.1
theorem Wp_r6 {l : List (Nat × Nat)} {r : am_R} {a : Nat} (k : Wp_K l r a) : r a 6 = some (a + 104) := k.2.2.2.2.2.2.2.2.2.2.2.2.2.2.1
theorem Wp_k6 {l : List (Nat × Nat)} {r : am_R} {a : Nat} (k : Wp_K l r a) : Pa_K l r (a + 104) := k.2.2.2.2.2.2.2.2.2.2.2.2.2.2.2
def Md_K (l : List (Nat × Nat)) (r : am_R) (a : Nat) : Prop := l[a]? = some (9, 52) ∧ r a 1 = some (a + 1) ∧ l[a + 1]? = some (11, 2400) ∧ r a 2 = some (a + 2) ∧ l[a + 2]? = some (10, 4) ∧ r a 3 = some (a + 3) ∧ l[a + 3]? = some (10, 4) ∧ r a 4 = some (a + 4) ∧ l[a + 4]? = some (10, 4) ∧ r a 5 = some (a + 5) ∧ l[a + 5]? = some (10, 16) ∧ r a 6 = some (a + 6) ∧ l[a + 6]? = some (10, 1560) ∧ r a 7 = some (a + 7) ∧ l[a + 7]? = some (10, 248) ∧ r a 8 = some (a + 8) ∧ l[a + 8]? = some (10, 264) ∧ r a 9 = some (a + 9) ∧ l[a + 9]? = some (10, 152) ∧ r a 19 = some (a + 10) ∧ l[a + 10]? = some (10, 195) ∧ r a 20 = some (a + 11) ∧ l[a + 11]? = some (10, 6) ∧ r a 23 = some (a + 12) ∧ l[a + 12]? = some (10, 195) ∧ r a 24 = some (a + 13) ∧ l[a + 13]? = some (10, 14) ∧ r a 25 = some (a + 14) ∧ l[a + 14]? = some (10, 14) ∧ r a 26 = some (a + 15) ∧ l[a + 15]? = some (10, 14) ∧ r a 27 = some (a + 16) ∧ l[a + 16]? = some (10, 14) ∧ r a 28 = some (a + 17) ∧ l[a + 17]? = some (10, 14) ∧ r a 29 = some (a + 18) ∧ l[a + 18]? = some (10, 14) ∧ r a 30 = some (a + 19) ∧ l[a + 19]? = some (10, 6) ∧ r a 31 = some (a + 20) ∧ l[a + 20]? = some (10, 6) ∧ r a 32 = some (a + 21) ∧ l[a + 21]? = some (10, 6) ∧ r a 33 = some (a + 22) ∧ l[a + 22]? = some (10, 6) ∧ r a 34 = some (a + 23) ∧ l[a + 23]? = some (10, 6) ∧ r a 41 = some (a + 24) ∧ l[a + 24]? = some (10, 6) ∧ r a 42 = some (a + 25) ∧ l[a + 25]? = some (10, 6) ∧ r a 44 = some (a + 26) ∧ l[a + 26]? = some (10, 49) ∧ r a 51 = some (a + 27) ∧ l[a + 27]? = some (12, 3)
theorem Md_l {l : List (Nat × Nat)} {r : am_R} {a : Nat} (k : Md_K l r a) : l[a]? = some (9, 52) := k.1
theorem Md_r1 {l : List (Nat × Nat)} {r : am_R} {a : Nat} (k : Md_K l r a) : r a 1 = some (a + 1) := k.2.1
theorem Md_k1 {l : List (Nat × Nat)} {r : am_R} {a : Nat} (k : Md_K l r a) : l[a + 1]? = some (11, 2400) := k.2.2.1
theorem Md_r2 {l : List (Nat × Nat)} {r : am_R} {a : Nat} (k : Md_K l r a) : r a 2 = some (a + 2) := k.2.2.2.1
theorem Md_k2 {l : List (Nat × Nat)} {r : am_R} {a : Nat} (k : Md_K l r a) : l[a + 2]? = some (10, 4) := k.2.2.2.2.1
theorem Md_r3 {l : List (Nat × Nat)} {r : am_R} {a : Nat} (k : Md_K l r a) : r a 3 = some (a + 3) := k.2.2.2.2.2.1
theorem Md_k3 {l : List (Nat × Nat)} {r : am_R} {a : Nat} (k : Md_K l r a) : l[a + 3]? = some (10, 4) := k.2.2.2.2.2.2.1
theorem Md_r4 {l : List (Nat × Nat)} {r : am_R} {a : Nat} (k : Md_K l r a) : r a 4 = some (a + 4) := k.2.2.2.2.2.2.2.1
theorem Md_k4 {l : List (Nat × Nat)} {r : am_R} {a : Nat} (k : Md_K l r a) : l[a + 4]? = some (10, 4) := k.2.2.2.2.2.2.2.2.1
theorem Md_r5 {l : List (Nat × Nat)} {r : am_R} {a : Nat} (k : Md_K l r a) : r a 5 = some (a + 5) := k.2.2.2.2.2.2.2.2.2.1
theorem Md_k5 {l : List (Nat × Nat)} {r : am_R} {a : Nat} (k : Md_K l r a) : l[a + 5]? = some (10, 16) := k.2.2.2.2.2.2.2.2.2.2.1
theorem Md_r6 {l : List (Nat × Nat)} {r : am_R} {a : Nat} (k : Md_K l r a) : r a 6 = some (a + 6) := k.2.2.2.2.2.2.2.2.2.2.2.1
theorem Md_k6 {l : List (Nat × Nat)} {r : am_R} {a : Nat} (k : Md_K l r a) : l[a + 6]? = some (10, 1560) := k.2.2.2.2.2.2.2.2.2.2.2.2.1
theorem Md_r7 {l : List (Nat × Nat)} {r : am_R} {a : Nat} (k : Md_K l r a) : r a 7 = some (a + 7) := k.2.2.2.2.2.2.2.2.2.2.2.2.2.1
theorem Md_k7 {l : List (Nat × Nat)} {r : am_R} {a : Nat} (k : Md_K l r a) : l[a + 7]? = some (10, 248) := k.2.2.2.2.2.2.2.2.2.2.2.2.2.2.1
theorem Md_r8 {l : List (Nat × Nat)} {r : am_R} {a : Nat} (k : Md_K l r a) : r a 8 = some (a + 8) := k.2.2.2.2.2.2.2.2.2.2.2.2.2.2.2.1
theorem Md_k8 {l : List (Nat × Nat)} {r : am_R} {a : Nat} (k : Md_K l r a) : l[a + 8]? = some (10, 264) := k.2.2.2.2.2.2.2.2.2.2.2.2.2.2.2.2.1
theorem Md_r9 {l : List (Nat × Nat)} {r : am_R} {a : Nat} (k : Md_K l r a) : r a 9 = some (a + 9) := k.2.2.2.2.2.2.2.2.2.2.2.2.2.2.2.2.2.1
theorem Md_k9 {l : List (Nat × Nat)} {r : am_R} {a : Nat} (k : Md_K l r a) : l[a + 9]? = some (10, 152) := k.2.2.2.2.2.2.2.2.2.2.2.2.2.2.2.2.2.2.1
theorem Md_r19 {l : List (Nat × Nat)} {r : am_R} {a : Nat} (k : Md_K l r a) : r a 19 = some (a + 10) := k.2.2.2.2.2.2.2.2.2.2.2.2.2.2.2.2.2.2.2.1
theorem Md_k19 {l : List (Nat × Nat)} {r : am_R} {a : Nat} (k : Md_K l r a) : l[a + 10]? = some (10, 195) := k.2.2.2.2.2.2.2.2.2.2.2.2.2.2.2.2.2.2.2.2.1
theorem Md_r20 {l : List (Nat × Nat)} {r : am_R} {a : Nat} (k : Md_K l r a) : r a 20 = some (a + 11) := k.2.2.2.2.2.2.2.2.2.2.2.2.2.2.2.2.2.2.2.2.2.1
theorem Md_k20 {l : List (Nat × Nat)} {r : am_R} {a : Nat} (k : Md_K l r a) : l[a + 11]? = some (10, 6) := k.2.2.2.2.2.2.2.2.2.2.2.2.2.2.2.2.2.2.2.2.2.2.1
theorem Md_r23 {l : List (Nat × Nat)} {r : am_R} {a : Nat} (k : Md_K l r a) : r a 23 = some (a + 12) := k.2.2.2.2.2.2.2.2.2.2.2.2.2.2.2.2.2.2.2.2.2.2.2.1
theorem Md_k23 {l : List (Nat × Nat)} {r : am_R} {a : Nat} (k : Md_K l r a) : l[a + 12]? = some (10, 195) := k.2.2.2.2.2.2.2.2.2.2.2.2.2.2.2.2.2.2.2.2.2.2.2.2.1
theorem Md_r24 {l : List (Nat × Nat)} {r : am_R} {a : Nat} (k : Md_K l r a) : r a 24 = some (a + 13) := k.2.2.2.2.2.2.2.2.2.2.2.2.2.2.2.2.2.2.2.2.2.2.2.2.2.1
theorem Md_k24 {l : List (Nat × Nat)} {r : am_R} {a : Nat} (k : Md_K l r a) : l[a + 13]? = some (10, 14) := k.2.2.2.2.2.2.2.2.2.2.2.2.2.2.2.2.2.2.2.2.2.2.2.2.2.2.1
theorem Md_r25 {l : List (Nat × Nat)} {r : am_R} {a : Nat} (k : Md_K l r a) : r a 25 = some (a + 14) := k.2.2.2.2.2.2.2.2.2.2.2.2.2.2.2.2.2.2.2.2.2.2.2.2.2.2.2.1
theorem Md_k25 {l : List (Nat × Nat)} {r : am_R} {a : Nat} (k : Md_K l r a) : l[a + 14]? = some (10, 14) := k.2.2.2.2.2.2.2.2.2.2.2.2.2.2.2.2.2.2.2.2.2.2.2.2.2.2.2.2.1
theorem Md_r26 {l : List (Nat × Nat)} {r : am_R} {a : Nat} (k : Md_K l r a) : r a 26 = some (a + 15) := k.2.2.2.2.2.2.2.2.2.2.2.2.2.2.2.2.2.2.2.2.2.2.2.2.2.2.2.2.2.1
theorem Md_k26 {l : List (Nat × Nat)} {r : am_R} {a : Nat} (k : Md_K l r a) : l[a + 15]? = some (10, 14) := k.2.2.2.2.2.2.2.2.2.2.2.2.2.2.2.2.2.2.2.2.2.2.2.2.2.2.2.2.2.2.1
theorem Md_r27 {l : List (Nat × Nat)} {r : am_R} {a : Nat} (k : Md_K l r a) : r a 27 = some (a + 16) := k.2.2.2.2.2.2.2.2.2.2.2.2.2.2.2.2.2.2.2.2.2.2.2.2.2.2.2.2.2.2.2.1
theorem Md_k27 {l : List (Nat × Nat)} {r : am_R} {a : Nat} (k : Md_K l r a) : l[a + 16]? = some (10, 14) := k.2.2.2.2.2.2.2.2.2.2.2.2.2.2.2.2.2.2.2.2.2.2.2.2.2.2.2.2.2.2.2.2.1
theorem Md_r28 {l : List (Nat × Nat)} {r : am_R} {a : Nat} (k : Md_K l r a) : r a 28 = some (a + 17) := k.2.2.2.2.2.2.2.2.2.2.2.2.2.2.2.2.2.2.2.2.2.2.2.2.2.2.2.2.2.2.2.2.2.1
theorem Md_k28 {l : List (Nat × Nat)} {r : am_R} {a : Nat} (k : Md_K l r a) : l[a + 17]? = some (10, 14) := k.2.2.2.2.2.2.2.2.2.2.2.2.2.2.2.2.2.2.2.2.2.2.2.2.2.2.2.2.2.2.2.2.2.2.1
theorem Md_r29 {l : List (Nat × Nat)} {r : am_R} {a : Nat} (k : Md_K l r a) : r a 29 = some (a + 18) := k.2.2.2.2.2.2.2.2.2.2.2.2.2.2.2.2.2.2.2.2.2.2.2.2.2.2.2.2.2.2.2.2.2.2.2.1
theorem Md_k29 {l : List (Nat × Nat)} {r : am_R} {a : Nat} (k : Md_K l r a) : l[a + 18]? = some (10, 14) := k.2.2.2.2.2.2.2.2.2.2.2.2.2.2.2.2.2.2.2.2.2.2.2.2.2.2.2.2.2.2.2.2.2.2.2.2.1
theorem Md_r30 {l : List (Nat × Nat)} {r : am_R} {a : Nat} (k : Md_K l r a) : r a 30 = some (a + 19) := k.2.2.2.2.2.2.2.2.2.2.2.2.2.2.2.2.2.2.2.2.2.2.2.2.2.2.2.2.2.2.2.2.2.2.2.2.2.1
theorem Md_k30 {l : List (Nat × Nat)} {r : am_R} {a : Nat} (k : Md_K l r a) : l[a + 19]? = some (10, 6) := k.2.2.2.2.2.2.2.2.2.2.2.2.2.2.2.2.2.2.2.2.2.2.2.2.2.2.2.2.2.2.2.2.2.2.2.2.2.2.1
theorem Md_r31 {l : List (Nat × Nat)} {r : am_R} {a : Nat} (k : Md_K l r a) : r a 31 = some (a + 20) := k.2.2.2.2.2.2.2.2.2.2.2.2.2.2.2.2.2.2.2.2.2.2.2.2.2.2.2.2.2.2.2.2.2.2.2.2.2.2.2.1
theorem Md_k31 {l : List (Nat × Nat)} {r : am_R} {a : Nat} (k : Md_K l r a) : l[a + 20]? = some (10, 6) := k.2.2.2.2.2.2.2.2.2.2.2.2.2.2.2.2.2.2.2.2.2.2.2.2.2.2.2.2.2.2.2.2.2.2.2.2.2.2.2.2.1
theorem Md_r32 {l : List (Nat × Nat)} {r : am_R} {a : Nat} (k : Md_K l r a) : r a 32 = some (a + 21) := k.2.2.2.2.2.2.2.2.2.2.2.2.2.2.2.2.2.2.2.2.2.2.2.2.2.2.2.2.2.2.2.2.2.2.2.2.2.2.2.2.2.1
theorem Md_k32 {l : List (Nat × Nat)} {r : am_R} {a : Nat} (k : Md_K l r a) : l[a + 21]? = some (10, 6) := k.2.2.2.2.2.2.2.2.2.2.2.2.2.2.2.2.2.2.2.2.2.2.2.2.2.2.2.2.2.2.2.2.2.2.2.2.2.2.2.2.2.2.1
theorem Md_r33 {l : List (Nat × Nat)} {r : am_R} {a : Nat} (k : Md_K l r a) : r a 33 = some (a + 22) := k.2.2.2.2.2.2.2.2.2.2.2.2.2.2.2.2.2.2.2.2.2.2.2.2.2.2.2.2.2.2.2.2.2.2.2.2.2.2.2.2.2.2.2.1
theorem Md_k33 {l : List (Nat × Nat)} {r : am_R} {a : Nat} (k : Md_K l r a) : l[a + 22]? = some (10, 6) := k.2.2.2.2.2.2.2.2.2.2.2.2.2.2.2.2.2.2.2.2.2.2.2.2.2.2.2.2.2.2.2.2.2.2.2.2.2.2.2.2.2.2.2.2.1
theorem Md_r34 {l : List (Nat × Nat)} {r : am_R} {a : Nat} (k : Md_K l r a) : r a 34 = some (a + 23) := k.2.2.2.2.2.2.2.2.2.2.2.2.2.2.2.2.2.2.2.2.2.2.2.2.2.2.2.2.2.2.2.2.2.2.2.2.2.2.2.2.2.2.2.2.2.1
theorem Md_k34 {l : List (Nat × Nat)} {r : am_R} {a : Nat} (k : Md_K l r a) : l[a + 23]? = some (10, 6) := k.2.2.2.2.2.2.2.2.2.2.2.2.2.2.2.2.2.2.2.2.2.2.2.2.2.2.2.2.2.2.2.2.2.2.2.2.2.2.2.2.2.2.2.2.2.2.1
theorem Md_r41 {l : List (Nat × Nat)} {r : am_R} {a : Nat} (k : Md_K l r a) : r a 41 = some (a + 24) := k.2.2.2.2.2.2.2.2.2.2.2.2.2.2.2.2.2.2.2.2.2.2.2.2.2.2.2.2.2.2.2.2.2.2.2.2.2.2.2.2.2.2.2.2.2.2.2.1
theorem Md_k41 {l : List (Nat × Nat)} {r : am_R} {a : Nat} (k : Md_K l r a) : l[a + 24]? = some (10, 6) := k.2.2.2.2.2.2.2.2.2.2.2.2.2.2.2.2.2.2.2.2.2.2.2.2.2.2.2.2.2.2.2.2.2.2.2.2.2.2.2.2.2.2.2.2.2.2.2.2.1
theorem Md_r42 {l : List (Nat × Nat)} {r : am_R} {a : Nat} (k : Md_K l r a) : r a 42 = some (a + 25) := k.2.2.2.2.2.2.2.2.2.2.2.2.2.2.2.2.2.2.2.2.2.2.2.2.2.2.2.2.2.2.2.2.2.2.2.2.2.2.2.2.2.2.2.2.2.2.2.2.2.1
theorem Md_k42 {l : List (Nat × Nat)} {r : am_R} {a : Nat} (k : Md_K l r a) : l[a + 25]? = some (10, 6) := k.2.2.2.2.2.2.2.2.2.2.2.2.2.2.2.2.2.2.2.2.2.2.2.2.2.2.2.2.2.2.2.2.2.2.2.2.2.2.2.2.2.2.2.2.2.2.2.2.2.2.1
theorem Md_r44 {l : List (Nat × Nat)} {r : am_R} {a : Nat} (k : Md_K l r a) : r a 44 = some (a + 26) := k.2.2.2.2.2.2.2.2.2.2.2.2.2.2.2.2.2.2.2.2.2.2.2.2.2.2.2.2.2.2.2.2.2.2.2.2.2.2.2.2.2.2.2.2.2.2.2.2.2.2.2.1
theorem Md_k44 {l : List (Nat × Nat)} {r : am_R} {a : Nat} (k : Md_K l r a) : l[a + 26]? = some (10, 49) := k.2.2.2.2.2.2.2.2.2.2.2.2.2.2.2.2.2.2.2.2.2.2.2.2.2.2.2.2.2.2.2.2.2.2.2.2.2.2.2.2.2.2.2.2.2.2.2.2.2.2.2.2.1
theorem Md_r51 {l : List (Nat × Nat)} {r : am_R} {a : Nat} (k : Md_K l r a) : r a 51 = some (a + 27) := k.2.2.2.2.2.2.2.2.2.2.2.2.2.2.2.2.2.2.2.2.2.2.2.2.2.2.2.2.2.2.2.2.2.2.2.2.2.2.2.2.2.2.2.2.2.2.2.2.2.2.2.2.2.1
theorem Md_k51 {l : List (Nat × Nat)} {r : am_R} {a : Nat} (k : Md_K l r a) : l[a + 27]? = some (12, 3) := k.2.2.2.2.2.2.2.2.2.2.2.2.2.2.2.2.2.2.2.2.2.2.2.2.2.2.2.2.2.2.2.2.2.2.2.2.2.2.2.2.2.2.2.2.2.2.2.2.2.2.2.2.2.2
def g_kp (l : List (Nat × Nat)) (r s : am_R) : Prop := (∀ a, Rw_K l r a → Rw_K l s a) ∧ (∀ a, Pk_K l r a → Pk_K l s a) ∧ (∀ a, Dy_K l r a → Dy_K l s a) ∧ (∀ a, Fi_K l r a → Fi_K l s a) ∧ (∀ a, Pa_K l r a → Pa_K l s a) ∧ (∀ a, Tl_K l r a → Tl_K l s a) ∧ (∀ a, Rd_K l r a → Rd_K l s a) ∧ (∀ a, Tr_K l r a → Tr_K l s a) ∧ (∀ a, Wp_K l r a → Wp_K l s a) ∧ (∀ a, Md_K l r a → Md_K l s a)
theorem g_kp_Rw {l : List (Nat × Nat)} {r s : am_R} (k : g_kp l r s) {a : Nat} (h : Rw_K l r a) : Rw_K l s a := k.1 a h
theorem g_kp_Pk {l : List (Nat × Nat)} {r s : am_R} (k : g_kp l r s) {a : Nat} (h : Pk_K l r a) : Pk_K l s a := k.2.1 a h
theorem g_kp_Dy {l : List (Nat × Nat)} {r s : am_R} (k : g_kp l r s) {a : Nat} (h : Dy_K l r a) : Dy_K l s a := k.2.2.1 a h
theorem g_kp_Fi {l : List (Nat × Nat)} {r s : am_R} (k : g_kp l r s) {a : Nat} (h : Fi_K l r a) : Fi_K l s a := k.2.2.2.1 a h
theorem g_kp_Pa {l : List (Nat × Nat)} {r s : am_R} (k : g_kp l r s) {a : Nat} (h : Pa_K l r a) : Pa_K l s a := k.2.2.2.2.1 a h
theorem g_kp_Tl {l : List (Nat × Nat)} {r s : am_R} (k : g_kp l r s) {a : Nat} (h : Tl_K l r a) : Tl_K l s a := k.2.2.2.2.2.1 a h
theorem g_kp_Rd {l : List (Nat × Nat)} {r s : am_R} (k : g_kp l r s) {a : Nat} (h : Rd_K l r a) : Rd_K l s a := k.2.2.2.2.2.2.1 a h
theorem g_kp_Tr {l : List (Nat × Nat)} {r s : am_R} (k : g_kp l r s) {a : Nat} (h : Tr_K l r a) : Tr_K l s a := k.2.2.2.2.2.2.2.1 a h
theorem g_kp_Wp {l : List (Nat × Nat)} {r s : am_R} (k : g_kp l r s) {a : Nat} (h : Wp_K l r a) : Wp_K l s a := k.2.2.2.2.2.2.2.2.1 a h
theorem g_kp_Md {l : List (Nat × Nat)} {r s : am_R} (k : g_kp l r s) {a : Nat} (h : Md_K l r a) : Md_K l s a := k.2.2.2.2.2.2.2.2.2 a h
theorem g_kp_id {l : List (Nat × Nat)} {r : am_R} : g_kp l r r := ⟨fun _ k => k, fun _ k => k, fun _ k => k, fun _ k => k, fun _ k => k, fun _ k => k, fun _ k => k, fun _ k => k, fun _ k => k, fun _ k => k⟩
theorem g_kp_tr {l : List (Nat × Nat)} {r s t : am_R} (k : g_kp l r s) (k2 : g_kp l s t) : g_kp l r t := ⟨fun _ h => g_kp_Rw k2 (g_kp_Rw k h), fun _ h => g_kp_Pk k2 (g_kp_Pk k h), fun _ h => g_kp_Dy k2 (g_kp_Dy k h), fun _ h => g_kp_Fi k2 (g_kp_Fi k h), fun _ h => g_kp_Pa k2 (g_kp_Pa k h), fun _ h => g_kp_Tl k2 (g_kp_Tl k h), fun _ h => g_kp_Rd k2 (g_kp_Rd k h), fun _ h => g_kp_Tr k2 (g_kp_Tr k h), fun _ h => g_kp_Wp k2 (g_kp_Wp k h), fun _ h => g_kp_Md k2 (g_kp_Md k h)⟩
theorem g_upt {l : List (Nat × Nat)} {r : am_R} {a b f k t n t2 n2 : Nat} {v : Option Nat} (ha : l[a]? = some (t, n)) (hb : l[b]? = some (t2, n2)) (ht : t ≠ t2) : am_up r b f v a k = r a k := by
  unfold am_up
  rw [if_neg]
  rintro ⟨rfl, _⟩
  rw [ha] at hb
  cases hb
  exact ht rfl
theorem g_upf {r : am_R} {a b f k : Nat} {v : Option Nat} (hf : k ≠ f) : am_up r b f v a k = r a k := by
  unfold am_up
  rw [if_neg]
  rintro ⟨_, rfl⟩
  exact hf rfl
theorem g_upn {r : am_R} {a b f p v : Nat} (h : am_up r b f (some v) a f = some p) : p = v ∨ r a f = some p := by
  unfold am_up at h
  split at h
  · cases h; exact .inl rfl
  · exact .inr h
theorem g_kp_park {l : List (Nat × Nat)} {r : am_R} {b v : Nat} (kb : Fi_K l r b) (kv : Pk_K l r v) : g_kp l r (am_up r b 6 (some v)) := by
  have hRw : ∀ a, Rw_K l r a → Rw_K l (am_up r b 6 (some v)) a := fun a k => ⟨(Rw_l k), ((g_upt (Rw_l k) (Fi_l kb) (by decide)).trans (Rw_r2 k)), (Rw_k2 k)⟩
  have hPk : ∀ a, Pk_K l r a → Pk_K l (am_up r b 6 (some v)) a := fun a k => ⟨(Pk_l k), ((g_upt (Pk_l k) (Fi_l kb) (by decide)).trans (Pk_r4 k)), (Pk_k4 k), ((g_upt (Pk_l k) (Fi_l kb) (by decide)).trans (Pk_r5 k)), (Pk_k5 k), ((g_upt (Pk_l k) (Fi_l kb) (by decide)).trans (Pk_r6 k)), (Pk_k6 k), ((g_upt (Pk_l k) (Fi_l kb) (by decide)).trans (Pk_r7 k)), (Pk_k7 k), ((g_upt (Pk_l k) (Fi_l kb) (by decide)).trans (Pk_r8 k)), (Pk_k8 k), ((g_upt (Pk_l k) (Fi_l kb) (by decide)).trans (Pk_r9 k)), (Pk_k9 k), ((g_upt (Pk_l k) (Fi_l kb) (by decide)).trans (Pk_r10 k)), (hRw _ (Pk_k10 k)), ((g_upt (Pk_l k) (Fi_l kb) (by decide)).trans (Pk_r11 k)), (hRw _ (Pk_k11 k)), ((g_upt (Pk_l k) (Fi_l kb) (by decide)).trans (Pk_r12 k)), (hRw _ (Pk_k12 k))⟩
  have hDy : ∀ a, Dy_K l r a → Dy_K l (am_up r b 6 (some v)) a := fun a k => ⟨(Dy_l k), ((g_upt (Dy_l k) (Fi_l kb) (by decide)).trans (Dy_r3 k)), (hRw _ (Dy_k3 k)), ((g_upt (Dy_l k) (Fi_l kb) (by decide)).trans (Dy_r7 k)), (Dy_k7 k), ((g_upt (Dy_l k) (Fi_l kb) (by decide)).trans (Dy_r8 k)), (Dy_k8 k), ((g_upt (Dy_l k) (Fi_l kb) (by decide)).trans (Dy_r9 k)), (Dy_k9 k), ((g_upt (Dy_l k) (Fi_l kb) (by decide)).trans (Dy_r10 k)), (Dy_k10 k), ((g_upt (Dy_l k) (Fi_l kb) (by decide)).trans (Dy_r11 k)), (Dy_k11 k), ((g_upt (Dy_l k) (Fi_l kb) (by decide)).trans (Dy_r12 k)), (Dy_k12 k), ((g_upt (Dy_l k) (Fi_l kb) (by decide)).trans (Dy_r13 k)), (Dy_k13 k)⟩
  have hFi : ∀ a, Fi_K l r a → Fi_K l (am_up r b 6 (some v)) a := fun a k => ⟨(Fi_l k), ((g_upf (by decide)).trans (Fi_r1 k)), (Fi_k1 k), ((g_upf (by decide)).trans (Fi_r2 k)), (Fi_k2 k), ((g_upf (by decide)).trans (Fi_r3 k)), (Fi_k3 k), (fun p hp => (g_upn hp).elim (fun e => e ▸ hPk _ kv) (fun e => hPk _ (Fi_n6 k p e)))⟩
  have hPa : ∀ a, Pa_K l r a → Pa_K l (am_up r b 6 (some v)) a := fun a k => k
  have hTl : ∀ a, Tl_K l r a → Tl_K l (am_up r b 6 (some v)) a := fun a k => ⟨(Tl_l k), ((g_upt (Tl_l k) (Fi_l kb) (by decide)).trans (Tl_r0 k)), (Tl_k0 k), ((g_upt (Tl_l k) (Fi_l kb) (by decide)).trans (Tl_r4 k)), (Tl_k4 k), ((g_upt (Tl_l k) (Fi_l kb) (by decide)).trans (Tl_r5 k)), (Tl_k5 k), (fun i p hp => hPk _ (Tl_e5 k i p ((g_upt (Tl_k5 k) (Fi_l kb) (by decide)).symm.trans hp))), ((g_upt (Tl_l k) (Fi_l kb) (by decide)).trans (Tl_r6 k)), (Tl_k6 k), (fun i p hp => hRw _ (Tl_e6 k i p ((g_upt (Tl_k6 k) (Fi_l kb) (by decide)).symm.trans hp)))⟩
  have hRd : ∀ a, Rd_K l r a → Rd_K l (am_up r b 6 (some v)) a := fun a k => ⟨(Rd_l k), ((g_upt (Rd_l k) (Fi_l kb) (by decide)).trans (Rd_r0 k)), (hPk _ (Rd_k0 k)), ((g_upt (Rd_l k) (Fi_l kb) (by decide)).trans (Rd_r1 k)), (hRw _ (Rd_k1 k)), ((g_upt (Rd_l k) (Fi_l kb) (by decide)).trans (Rd_r2 k)), (hRw _ (Rd_k2 k)), ((g_upt (Rd_l k) (Fi_l kb) (by decide)).trans (Rd_r3 k)), (hRw _ (Rd_k3 k)), ((g_upt (Rd_l k) (Fi_l kb) (by decide)).trans (Rd_r6 k)), (Rd_k6 k), (fun p hp => Rd_n7 k p ((g_upt (Rd_l k) (Fi_l kb) (by decide)).symm.trans hp))⟩
  have hTr : ∀ a, Tr_K l r a → Tr_K l (am_up r b 6 (some v)) a := fun a k => ⟨(Tr_l k), ((g_upt (Tr_l k) (Fi_l kb) (by decide)).trans (Tr_r2 k)), (hDy _ (Tr_k2 k)), ((g_upt (Tr_l k) (Fi_l kb) (by decide)).trans (Tr_r3 k)), (hPk _ (Tr_k3 k))⟩
  have hWp : ∀ a, Wp_K l r a → Wp_K l (am_up r b 6 (some v)) a := fun a k => ⟨(Wp_l k), ((g_upt (Wp_l k) (Fi_l kb) (by decide)).trans (Wp_r0 k)), (hTl _ (Wp_k0 k)), ((g_upt (Wp_l k) (Fi_l kb) (by decide)).trans (Wp_r1 k)), (Wp_k1 k), (fun i p hp => hTl _ (Wp_e1 k i p ((g_upt (Wp_k1 k) (Fi_l kb) (by decide)).symm.trans hp))), ((g_upt (Wp_l k) (Fi_l kb) (by decide)).trans (Wp_r2 k)), (hRd _ (Wp_k2 k)), ((g_upt (Wp_l k) (Fi_l kb) (by decide)).trans (Wp_r3 k)), (hDy _ (Wp_k3 k)), ((g_upt (Wp_l k) (Fi_l kb) (by decide)).trans (Wp_r4 k)), (hTr _ (Wp_k4 k)), ((g_upt (Wp_l k) (Fi_l kb) (by decide)).trans (Wp_r5 k)), (hFi _ (Wp_k5 k)), ((g_upt (Wp_l k) (Fi_l kb) (by decide)).trans (Wp_r6 k)), (hPa _ (Wp_k6 k))⟩
  have hMd : ∀ a, Md_K l r a → Md_K l (am_up r b 6 (some v)) a := fun a k => ⟨(Md_l k), ((g_upt (Md_l k) (Fi_l kb) (by decide)).trans (Md_r1 k)), (Md_k1 k), ((g_upt (Md_l k) (Fi_l kb) (by decide)).trans (Md_r2 k)), (Md_k2 k), ((g_upt (Md_l k) (Fi_l kb) (by decide)).trans (Md_r3 k)), (Md_k3 k), ((g_upt (Md_l k) (Fi_l kb) (by decide)).trans (Md_r4 k)), (Md_k4 k), ((g_upt (Md_l k) (Fi_l kb) (by decide)).trans (Md_r5 k)), (Md_k5 k), ((g_upt (Md_l k) (Fi_l kb) (by decide)).trans (Md_r6 k)), (Md_k6 k), ((g_upt (Md_l k) (Fi_l kb) (by decide)).trans (Md_r7 k)), (Md_k7 k), ((g_upt (Md_l k) (Fi_l kb) (by decide)).trans (Md_r8 k)), (Md_k8 k), ((g_upt (Md_l k) (Fi_l kb) (by decide)).trans (Md_r9 k)), (Md_k9 k), ((g_upt (Md_l k) (Fi_l kb) (by decide)).trans (Md_r19 k)), (Md_k19 k), ((g_upt (Md_l k) (Fi_l kb) (by decide)).trans (Md_r20 k)), (Md_k20 k), ((g_upt (Md_l k) (Fi_l kb) (by decide)).trans (Md_r23 k)), (Md_k23 k), ((g_upt (Md_l k) (Fi_l kb) (by decide)).trans (Md_r24 k)), (Md_k24 k), ((g_upt (Md_l k) (Fi_l kb) (by decide)).trans (Md_r25 k)), (Md_k25 k), ((g_upt (Md_l k) (Fi_l kb) (by decide)).trans (Md_r26 k)), (Md_k26 k), ((g_upt (Md_l k) (Fi_l kb) (by decide)).trans (Md_r27 k)), (Md_k27 k), ((g_upt (Md_l k) (Fi_l kb) (by decide)).trans (Md_r28 k)), (Md_k28 k), ((g_upt (Md_l k) (Fi_l kb) (by decide)).trans (Md_r29 k)), (Md_k29 k), ((g_upt (Md_l k) (Fi_l kb) (by decide)).trans (Md_r30 k)), (Md_k30 k), ((g_upt (Md_l k) (Fi_l kb) (by decide)).trans (Md_r31 k)), (Md_k31 k), ((g_upt (Md_l k) (Fi_l kb) (by decide)).trans (Md_r32 k)), (Md_k32 k), ((g_upt (Md_l k) (Fi_l kb) (by decide)).trans (Md_r33 k)), (Md_k33 k), ((g_upt (Md_l k) (Fi_l kb) (by decide)).trans (Md_r34 k)), (Md_k34 k), ((g_upt (Md_l k) (Fi_l kb) (by decide)).trans (Md_r41 k)), (Md_k41 k), ((g_upt (Md_l k) (Fi_l kb) (by decide)).trans (Md_r42 k)), (Md_k42 k), ((g_upt (Md_l k) (Fi_l kb) (by decide)).trans (Md_r44 k)), (Md_k44 k), ((g_upt (Md_l k) (Fi_l kb) (by decide)).trans (Md_r51 k)), (Md_k51 k)⟩
  exact ⟨hRw, hPk, hDy, hFi, hPa, hTl, hRd, hTr, hWp, hMd⟩
theorem g_kp_tape {l : List (Nat × Nat)} {r : am_R} {b v : Nat} (kb : Rd_K l r b) (kv : l[v]? = some (11, g_ln l v)) : g_kp l r (am_up r b 7 (some v)) := by
  have hRw : ∀ a, Rw_K l r a → Rw_K l (am_up r b 7 (some v)) a := fun a k => ⟨(Rw_l k), ((g_upt (Rw_l k) (Rd_l kb) (by decide)).trans (Rw_r2 k)), (Rw_k2 k)⟩
  have hPk : ∀ a, Pk_K l r a → Pk_K l (am_up r b 7 (some v)) a := fun a k => ⟨(Pk_l k), ((g_upt (Pk_l k) (Rd_l kb) (by decide)).trans (Pk_r4 k)), (Pk_k4 k), ((g_upt (Pk_l k) (Rd_l kb) (by decide)).trans (Pk_r5 k)), (Pk_k5 k), ((g_upt (Pk_l k) (Rd_l kb) (by decide)).trans (Pk_r6 k)), (Pk_k6 k), ((g_upt (Pk_l k) (Rd_l kb) (by decide)).trans (Pk_r7 k)), (Pk_k7 k), ((g_upt (Pk_l k) (Rd_l kb) (by decide)).trans (Pk_r8 k)), (Pk_k8 k), ((g_upt (Pk_l k) (Rd_l kb) (by decide)).trans (Pk_r9 k)), (Pk_k9 k), ((g_upt (Pk_l k) (Rd_l kb) (by decide)).trans (Pk_r10 k)), (hRw _ (Pk_k10 k)), ((g_upt (Pk_l k) (Rd_l kb) (by decide)).trans (Pk_r11 k)), (hRw _ (Pk_k11 k)), ((g_upt (Pk_l k) (Rd_l kb) (by decide)).trans (Pk_r12 k)), (hRw _ (Pk_k12 k))⟩
  have hDy : ∀ a, Dy_K l r a → Dy_K l (am_up r b 7 (some v)) a := fun a k => ⟨(Dy_l k), ((g_upt (Dy_l k) (Rd_l kb) (by decide)).trans (Dy_r3 k)), (hRw _ (Dy_k3 k)), ((g_upt (Dy_l k) (Rd_l kb) (by decide)).trans (Dy_r7 k)), (Dy_k7 k), ((g_upt (Dy_l k) (Rd_l kb) (by decide)).trans (Dy_r8 k)), (Dy_k8 k), ((g_upt (Dy_l k) (Rd_l kb) (by decide)).trans (Dy_r9 k)), (Dy_k9 k), ((g_upt (Dy_l k) (Rd_l kb) (by decide)).trans (Dy_r10 k)), (Dy_k10 k), ((g_upt (Dy_l k) (Rd_l kb) (by decide)).trans (Dy_r11 k)), (Dy_k11 k), ((g_upt (Dy_l k) (Rd_l kb) (by decide)).trans (Dy_r12 k)), (Dy_k12 k), ((g_upt (Dy_l k) (Rd_l kb) (by decide)).trans (Dy_r13 k)), (Dy_k13 k)⟩
  have hFi : ∀ a, Fi_K l r a → Fi_K l (am_up r b 7 (some v)) a := fun a k => ⟨(Fi_l k), ((g_upt (Fi_l k) (Rd_l kb) (by decide)).trans (Fi_r1 k)), (Fi_k1 k), ((g_upt (Fi_l k) (Rd_l kb) (by decide)).trans (Fi_r2 k)), (Fi_k2 k), ((g_upt (Fi_l k) (Rd_l kb) (by decide)).trans (Fi_r3 k)), (Fi_k3 k), (fun p hp => hPk _ (Fi_n6 k p ((g_upt (Fi_l k) (Rd_l kb) (by decide)).symm.trans hp)))⟩
  have hPa : ∀ a, Pa_K l r a → Pa_K l (am_up r b 7 (some v)) a := fun a k => k
  have hTl : ∀ a, Tl_K l r a → Tl_K l (am_up r b 7 (some v)) a := fun a k => ⟨(Tl_l k), ((g_upt (Tl_l k) (Rd_l kb) (by decide)).trans (Tl_r0 k)), (Tl_k0 k), ((g_upt (Tl_l k) (Rd_l kb) (by decide)).trans (Tl_r4 k)), (Tl_k4 k), ((g_upt (Tl_l k) (Rd_l kb) (by decide)).trans (Tl_r5 k)), (Tl_k5 k), (fun i p hp => hPk _ (Tl_e5 k i p ((g_upt (Tl_k5 k) (Rd_l kb) (by decide)).symm.trans hp))), ((g_upt (Tl_l k) (Rd_l kb) (by decide)).trans (Tl_r6 k)), (Tl_k6 k), (fun i p hp => hRw _ (Tl_e6 k i p ((g_upt (Tl_k6 k) (Rd_l kb) (by decide)).symm.trans hp)))⟩
  have hRd : ∀ a, Rd_K l r a → Rd_K l (am_up r b 7 (some v)) a := fun a k => ⟨(Rd_l k), ((g_upf (by decide)).trans (Rd_r0 k)), (hPk _ (Rd_k0 k)), ((g_upf (by decide)).trans (Rd_r1 k)), (hRw _ (Rd_k1 k)), ((g_upf (by decide)).trans (Rd_r2 k)), (hRw _ (Rd_k2 k)), ((g_upf (by decide)).trans (Rd_r3 k)), (hRw _ (Rd_k3 k)), ((g_upf (by decide)).trans (Rd_r6 k)), (Rd_k6 k), (fun p hp => (g_upn hp).elim (fun e => e ▸ kv) (fun e => Rd_n7 k p e))⟩
  have hTr : ∀ a, Tr_K l r a → Tr_K l (am_up r b 7 (some v)) a := fun a k => ⟨(Tr_l k), ((g_upt (Tr_l k) (Rd_l kb) (by decide)).trans (Tr_r2 k)), (hDy _ (Tr_k2 k)), ((g_upt (Tr_l k) (Rd_l kb) (by decide)).trans (Tr_r3 k)), (hPk _ (Tr_k3 k))⟩
  have hWp : ∀ a, Wp_K l r a → Wp_K l (am_up r b 7 (some v)) a := fun a k => ⟨(Wp_l k), ((g_upt (Wp_l k) (Rd_l kb) (by decide)).trans (Wp_r0 k)), (hTl _ (Wp_k0 k)), ((g_upt (Wp_l k) (Rd_l kb) (by decide)).trans (Wp_r1 k)), (Wp_k1 k), (fun i p hp => hTl _ (Wp_e1 k i p ((g_upt (Wp_k1 k) (Rd_l kb) (by decide)).symm.trans hp))), ((g_upt (Wp_l k) (Rd_l kb) (by decide)).trans (Wp_r2 k)), (hRd _ (Wp_k2 k)), ((g_upt (Wp_l k) (Rd_l kb) (by decide)).trans (Wp_r3 k)), (hDy _ (Wp_k3 k)), ((g_upt (Wp_l k) (Rd_l kb) (by decide)).trans (Wp_r4 k)), (hTr _ (Wp_k4 k)), ((g_upt (Wp_l k) (Rd_l kb) (by decide)).trans (Wp_r5 k)), (hFi _ (Wp_k5 k)), ((g_upt (Wp_l k) (Rd_l kb) (by decide)).trans (Wp_r6 k)), (hPa _ (Wp_k6 k))⟩
  have hMd : ∀ a, Md_K l r a → Md_K l (am_up r b 7 (some v)) a := fun a k => ⟨(Md_l k), ((g_upt (Md_l k) (Rd_l kb) (by decide)).trans (Md_r1 k)), (Md_k1 k), ((g_upt (Md_l k) (Rd_l kb) (by decide)).trans (Md_r2 k)), (Md_k2 k), ((g_upt (Md_l k) (Rd_l kb) (by decide)).trans (Md_r3 k)), (Md_k3 k), ((g_upt (Md_l k) (Rd_l kb) (by decide)).trans (Md_r4 k)), (Md_k4 k), ((g_upt (Md_l k) (Rd_l kb) (by decide)).trans (Md_r5 k)), (Md_k5 k), ((g_upt (Md_l k) (Rd_l kb) (by decide)).trans (Md_r6 k)), (Md_k6 k), ((g_upt (Md_l k) (Rd_l kb) (by decide)).trans (Md_r7 k)), (Md_k7 k), ((g_upt (Md_l k) (Rd_l kb) (by decide)).trans (Md_r8 k)), (Md_k8 k), ((g_upt (Md_l k) (Rd_l kb) (by decide)).trans (Md_r9 k)), (Md_k9 k), ((g_upt (Md_l k) (Rd_l kb) (by decide)).trans (Md_r19 k)), (Md_k19 k), ((g_upt (Md_l k) (Rd_l kb) (by decide)).trans (Md_r20 k)), (Md_k20 k), ((g_upt (Md_l k) (Rd_l kb) (by decide)).trans (Md_r23 k)), (Md_k23 k), ((g_upt (Md_l k) (Rd_l kb) (by decide)).trans (Md_r24 k)), (Md_k24 k), ((g_upt (Md_l k) (Rd_l kb) (by decide)).trans (Md_r25 k)), (Md_k25 k), ((g_upt (Md_l k) (Rd_l kb) (by decide)).trans (Md_r26 k)), (Md_k26 k), ((g_upt (Md_l k) (Rd_l kb) (by decide)).trans (Md_r27 k)), (Md_k27 k), ((g_upt (Md_l k) (Rd_l kb) (by decide)).trans (Md_r28 k)), (Md_k28 k), ((g_upt (Md_l k) (Rd_l kb) (by decide)).trans (Md_r29 k)), (Md_k29 k), ((g_upt (Md_l k) (Rd_l kb) (by decide)).trans (Md_r30 k)), (Md_k30 k), ((g_upt (Md_l k) (Rd_l kb) (by decide)).trans (Md_r31 k)), (Md_k31 k), ((g_upt (Md_l k) (Rd_l kb) (by decide)).trans (Md_r32 k)), (Md_k32 k), ((g_upt (Md_l k) (Rd_l kb) (by decide)).trans (Md_r33 k)), (Md_k33 k), ((g_upt (Md_l k) (Rd_l kb) (by decide)).trans (Md_r34 k)), (Md_k34 k), ((g_upt (Md_l k) (Rd_l kb) (by decide)).trans (Md_r41 k)), (Md_k41 k), ((g_upt (Md_l k) (Rd_l kb) (by decide)).trans (Md_r42 k)), (Md_k42 k), ((g_upt (Md_l k) (Rd_l kb) (by decide)).trans (Md_r44 k)), (Md_k44 k), ((g_upt (Md_l k) (Rd_l kb) (by decide)).trans (Md_r51 k)), (Md_k51 k)⟩
  exact ⟨hRw, hPk, hDy, hFi, hPa, hTl, hRd, hTr, hWp, hMd⟩
