/-! the names of parts, on the reference's side -/
section
def zd_lk (q : Nat) : Nat → Nat
  | 0 => 0
  | i + 1 => if q / 2 ^ (i + 1) = 0 then zd_lk q i else i + 1
def zd_lg (q : Nat) : Nat := zd_lk q 5
def zd_pi (q x : Nat) : Nat := x / 2 ^ zd_lg q * 2 ^ zd_lg q + q % 2 ^ zd_lg q
def zd_P (vals : Nat → Int32) (N x : Nat) : Int32 := vals (32 * (N / 64) + zd_pi (N % 64) x)
def zd_ok (m N : Nat) : Prop := 1 ≤ N % 64 ∧ N % 64 < 2 * m
def zd_eq (vals : Nat → Int32) (m A B : Nat) : Prop := ∀ x, x < m → zd_P vals A x = zd_P vals B x
def zd_new (vals : Nat → Int32) (m F N : Nat) : Prop := ∀ A, F ≤ A → A < N → zd_ok m A → ¬ zd_eq vals m A N
noncomputable def zd_cn (vals : Nat → Int32) (m F : Nat) : Nat → Nat
  | 0 => 0
  | i + 1 => zd_cn vals m F i + @ite Nat (zd_ok m (F + i) ∧ zd_new vals m F (F + i)) (Classical.propDecidable _) 1 0
theorem zd_cn1 {vals : Nat → Int32} {m F i : Nat} (h : zd_ok m (F + i)) (h' : zd_new vals m F (F + i)) : zd_cn vals m F (i + 1) = zd_cn vals m F i + 1 := congrArg (zd_cn vals m F i + ·) (if_pos ⟨h, h'⟩)
theorem zd_cn0 {vals : Nat → Int32} {m F i : Nat} (h : ¬ (zd_ok m (F + i) ∧ zd_new vals m F (F + i))) : zd_cn vals m F (i + 1) = zd_cn vals m F i := congrArg (zd_cn vals m F i + ·) (if_neg h)
theorem zd_cnb (vals : Nat → Int32) (m F : Nat) (hF : F % 64 = 0) (i : Nat) : zd_cn vals m F i + (i + 63) / 64 ≤ i := by
  induction i with
  | zero => exact Nat.le_refl 0
  | succ i ih =>
    by_cases h : zd_ok m (F + i) ∧ zd_new vals m F (F + i)
    · rw [zd_cn1 h.1 h.2]
      have := h.1.1
      omega
    · rw [zd_cn0 h]
      omega
/-! tables -/
theorem zd_t63 : ∀ N, N < 512 → nI N &&& 63 = nI (N % 64) := by decide +kernel
theorem zd_tsr : ∀ q, q < 64 → ∀ j, j < 6 → nI q >>> (nI j &&& 31) = nI (q / 2 ^ j) := by decide +kernel
theorem zd_t6 : ∀ N, N < 512 → nI N >>> ((6 : Int32) &&& 31) = nI (N / 64) := by decide +kernel
theorem zd_tlo : ∀ k, k < 6 → ∀ N, N < 512 → nI N &&& (((1 : Int32) <<< (nI k &&& 31)) - 1) = nI (N % 64 % 2 ^ k) := by decide +kernel
theorem zd_thi : ∀ k, k < 6 → ∀ x, x < 32 → nI x &&& ((((1 : Int32) <<< (nI k &&& 31)) - 1) ^^^ (-1)) = nI (x / 2 ^ k * 2 ^ k) := by decide +kernel
theorem zd_tke : ∀ k, k < 6 → ∀ x, x < 32 → nI x &&& ((-1 : Int32) <<< (nI k &&& 31)) = nI (x / 2 ^ k * 2 ^ k) := by decide +kernel
theorem zd_tor : ∀ k, k < 6 → ∀ x, x < 32 → ∀ r, r < 2 ^ k → nI (x / 2 ^ k * 2 ^ k) ||| nI r = nI (x / 2 ^ k * 2 ^ k + r) := by decide +kernel
theorem zd_tlg : ∀ q, q < 64 → zd_lg q < 6 := by decide +kernel
theorem zd_tkr : ∀ k, k < 6 → ∀ r, r < 2 ^ k → zd_lg (2 ^ k + r) = k ∧ (2 ^ k + r) % 2 ^ k = r ∧ 2 ^ k + r < 64 := by decide +kernel
theorem zd_tpi : ∀ V, V < 6 → ∀ q, q < 2 * 2 ^ V → ∀ x, x < 2 ^ V → q = 0 ∨ zd_pi q x < 2 ^ V := by decide +kernel
theorem zd_txk : ∀ V, V < 6 → ∀ k, k < V + 1 → ∀ r, r < 2 ^ k → ∀ x, x < 2 ^ V → x / 2 ^ k * 2 ^ k + r < 2 ^ V := by decide +kernel
/-! the walks -/
variable {V m F L N A B x : Nat} {fv : Int32} {vals res : Nat → Int32} {post : Int32 → Prop}
theorem zd_isname {P Q : Prop} (hm : m ≤ 32) (hN : N < 512) (hA : ¬ zd_ok m N → P) (hB : zd_ok m N → Q) : wpY_isName (fun r => (r = 0 → P) ∧ (¬ r = 0 → Q)) (fv, nI m, vals, res) (nI N) := by
  have e : (2 : Int32) * nI m = nI (2 * m) := pk_mul 2 m
  have h1 : nI (N % 64) < (1 : Int32) ↔ N % 64 < 1 := nI_ltI (b := 1) (by omega) (by decide)
  have h2 : nI (2 * m) ≤ nI (N % 64) ↔ 2 * m ≤ N % 64 := nI_leI (by omega) (by omega)
  unfold wpY_isName
  dsimp only
  rw [zd_t63 N hN, e, h1, h2]
  refine br_c (fun h => zd_0 (hA fun z => ?_)) (fun h => br_c (fun h' => zd_0 (hA fun z => ?_)) (fun h' => zd_1 (hB ?_)))
  · have := z.1
    omega
  · have := z.2
    omega
  · exact ⟨by omega, by omega⟩
theorem zd_fc (hN : N < 512) (hp : post (nI (zd_lg (N % 64)))) : wpY_fixedCount post (fv, nI m, vals, res) (nI N) := by
  refine loop_0 (fun n j s => wY_fixedCount_4 post (nI N) fv (nI m) vals res n s (nI (j + 1))) (fun j s => s = nI (zd_lk (N % 64) j)) 5 0 rfl
    (fun n s hI => br_t (by decide) (by subst hI; exact hp))
    (fun n j s hj hI K => br_f (nI_nlt (b := j + 1) (a := 5) (by omega) (by decide)) ?_)
  rw [zd_t63 N hN, zd_tsr (N % 64) (by omega) (j + 1) (by omega)]
  have h0 : nI (N % 64 / 2 ^ (j + 1)) = 0 ↔ N % 64 / 2 ^ (j + 1) = 0 := nI_eq (b := 0) (by have := Nat.div_le_self (N % 64) (2 ^ (j + 1)); omega) (by decide)
  rw [h0]
  refine br_c (fun e z ez => ?_) (fun e z ez => ?_)
  · rw [ez, nI_1]
    refine K s ?_
    rw [hI]
    exact congrArg nI (if_pos e).symm
  · rw [ez, nI_1]
    refine K _ ?_
    exact congrArg nI (if_neg e).symm
theorem zd_pb (hV : V < 6) (ho : zd_ok (2 ^ V) N) (hx : x < 2 ^ V) : zd_pi (N % 64) x < 2 ^ V :=
  (zd_tpi V hV (N % 64) ho.2 x hx).resolve_left (by have := ho.1; omega)
theorem zd_pat (hV : V < 6) (hN : N < 512) (ho : zd_ok (2 ^ V) N) (hx : x < 2 ^ V) (hp : post (zd_P vals N x)) : wpY_partAt post (fv, nI (2 ^ V), vals, res) (nI N) (((1 : Int32) <<< (nI (zd_lg (N % 64)) &&& 31)) - 1) (nI x) := by
  have hm := zd_m V hV
  have hb := zd_pb hV ho hx
  have hk := zd_tlg (N % 64) (by omega)
  have e : (nI x &&& ((((1 : Int32) <<< (nI (zd_lg (N % 64)) &&& 31)) - 1) ^^^ (-1))) ||| (nI N &&& (((1 : Int32) <<< (nI (zd_lg (N % 64)) &&& 31)) - 1)) = nI (zd_pi (N % 64) x) := by
    rw [zd_thi _ hk x (by omega), zd_tlo _ hk N hN, zd_tor _ hk x (by omega) _ (Nat.mod_lt _ (Nat.two_pow_pos _))]
    rfl
  unfold wpY_partAt
  dsimp only
  rw [e, zd_t6 N hN, zd_c2 (by omega)]
  exact ⟨zd_v2 (by omega) (by omega), hp⟩
theorem zd_same (hV : V < 6) (hA : A < 512) (hB : B < 512) (oA : zd_ok (2 ^ V) A) (oB : zd_ok (2 ^ V) B) (h1 : zd_eq vals (2 ^ V) A B → post 1) (h0 : ¬ zd_eq vals (2 ^ V) A B → post 0) : wpY_samePart post (fv, nI (2 ^ V), vals, res) (nI A) (nI B) := by
  have hm := zd_m V hV
  unfold wpY_samePart
  dsimp only
  refine zd_fc hA (zd_fc hB ?_)
  exact loop_0 (fun n i (_ : Unit) => wY_samePart_16 post (nI A) (nI B) (nI (zd_lg (A % 64))) (nI (zd_lg (B % 64))) fv (nI (2 ^ V)) vals res n (nI i)) (fun i _ => ∀ x, x < i → zd_P vals A x = zd_P vals B x) (2 ^ V) () lt_0
    (fun n s hI => br_t (nI_le (Nat.le_refl _) (by omega)) (h1 hI))
    (fun n i s hi hI K => br_f (nI_ge hi (by omega)) (zd_pat hV hA oA hi (zd_pat hV hB oB hi (br_c (fun e => nm_r (nI_1 i) (K () (lt_s hI e))) (fun e => h0 fun z => e (z i hi))))))
theorem zd_isnew (hV : V < 6) (hN : N < 512) (hF : F ≤ N) (oN : zd_ok (2 ^ V) N) (h1 : zd_new vals (2 ^ V) F N → post 1) (h0 : ¬ zd_new vals (2 ^ V) F N → post 0) : wpY_isNew post (fv, nI (2 ^ V), vals, res) (nI F) (nI N) := by
  have hm := zd_m V hV
  refine pk_loop (fun n i (_ : Unit) => wY_isNew_2 post (nI N) fv (nI (2 ^ V)) vals res n (nI i)) (fun i _ => F ≤ i ∧ ∀ A, F ≤ A → A < i → zd_ok (2 ^ V) A → ¬ zd_eq vals (2 ^ V) A N) N F () hF ⟨Nat.le_refl F, fun A a b => absurd b (by omega)⟩
    (fun n s hI => br_t (nI_le (Nat.le_refl _) (by omega)) (h1 hI.2))
    (fun n i s hi hI K => br_f (nI_ge hi (by omega)) (zd_isname hm (by omega) (fun ho => nm_r (nI_1 i) (K () ⟨by have := hI.1; omega, fun A a b o => ?_⟩)) (fun ho => zd_same hV (by omega) hN ho oN (fun he => zd_1 (h0 fun z => z i hI.1 hi ho he)) (fun he => zd_0 (nm_r (nI_1 i) (K () ⟨by have := hI.1; omega, fun A a b o => ?_⟩))))))
  · by_cases h : A = i
    · subst h
      exact absurd o ho
    · exact hI.2 A a (by omega) o
  · by_cases h : A = i
    · subst h
      exact he
    · exact hI.2 A a (by omega) o
theorem zd_diff (hV : V < 6) (hL : F + L ≤ 512) (hp : post (nI (zd_cn vals (2 ^ V) F L))) : wpY_differentParts post (fv, nI (2 ^ V), vals, res) (nI F) (nI (F + L)) := by
  have hm := zd_m V hV
  refine loop_0 (fun n i s => wY_differentParts_5 post (nI F) (nI (F + L)) fv (nI (2 ^ V)) vals res n s (nI (F + i))) (fun i s => s = nI (zd_cn vals (2 ^ V) F i)) L 0 rfl
    (fun n s hI => br_t (nI_le (Nat.le_refl _) (by omega)) (by subst hI; exact hp))
    (fun n i s hi hI K => br_f (nI_ge (by omega) (by omega)) (zd_isname hm (by omega) (fun ho => nm_r (nI_1 (F + i)) (K s ?_)) (fun ho => zd_isnew hV (by omega) (by omega) ho (fun hn => zd_1 fun y ey => nm_r (nI_1 (F + i)) (K y ?_)) (fun hn => zd_0 (nm_r (nI_1 (F + i)) (K s ?_))))))
  · rw [hI, zd_cn0 fun z => ho z.1]
  · rw [ey, hI, nI_1, zd_cn1 ho hn]
  · rw [hI, zd_cn0 fun z => hn z.2]
end
