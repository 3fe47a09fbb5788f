theorem pk_us {f : Nat → Int32} {k : Nat} {x : Int32} : upd f k x k = x := if_pos rfl
theorem pk_un {f : Nat → Int32} {k j : Nat} {x : Int32} (h : j ≠ k) : upd f k x j = f j := if_neg h
theorem pk_mul (a b : Nat) : nI a * nI b = nI (a * b) := (Int32.ofNat_mul a b).symm
theorem pk_loop {σ : Type} (W : Nat → Nat → σ → Prop) (I : Nat → σ → Prop) (e i0 : Nat) (s : σ) (hi : i0 ≤ e) (h0 : I i0 s) (hx : ∀ n s, I e s → W (n + 1) e s)
    (hs : ∀ n i s, i < e → I i s → (∀ s', I (i + 1) s' → W n (i + 1) s') → W (n + 1) i s) : ∃ n, W n i0 s :=
  ⟨e + 1, loop_i W I e hx hs (e + 1) i0 s hi (by omega) h0⟩
/-- the two tables of values are the same function; what a call writes before it reads it is free -/
def i_Rel (_ : Nat) (u : SX) (v : SY) : Prop := ∃ (V : Nat) (pf : Int32) (vals made pv res : Nat → Int32), 2 ≤ V ∧ V < 6 ∧ u = (nI V, nI (2 ^ V), pf, vals, made, pv) ∧ v = (nI V, nI (2 ^ V), vals, res)
theorem i_up {k : Nat} {u : SX} {v : SY} (h : i_Rel k u v) : i_Rel (k + 5) u v := h
theorem zd_m : ∀ V, V < 6 → 2 ^ V ≤ 32 := by decide
theorem zd_sh : ∀ V, V < 6 → (1 : Int32) <<< (nI V &&& 31) = nI (2 ^ V) := by decide +kernel
theorem i_vc0 (k0 : Int32) : wpX_init (fun u => wpY_init (fun v => i_Rel 1 u v) k0) k0 := by
  by_cases h2 : (2 : Int32) ≤ k0
  · by_cases h5 : k0 ≤ (5 : Int32)
    · have h0 : ¬ k0 < 0 := Int32.not_lt.mpr (Int32.le_trans (by decide) h2)
      obtain ⟨j, hj, rfl⟩ := nI_of h0
      have h2' : 2 ≤ j := (nI_leI (a := 2) (by decide) hj).mp h2
      have h5' : j ≤ 5 := (nI_leI (b := 5) hj (by decide)).mp h5
      exact br_t h2 (br_t h5 (nm_r (zd_sh j (by omega)) (br_t h2 (br_t h5 (nm_r (zd_sh j (by omega)) ⟨j, 0, _, _, _, _, h2', by omega, rfl, rfl⟩)))))
    · exact br_t h2 (br_f h5 (nm_r (zd_sh 5 (by decide)) (br_t h2 (br_f h5 (nm_r (zd_sh 5 (by decide)) ⟨5, 0, _, _, _, _, by decide, by decide, rfl, rfl⟩)))))
  · have h5 : (2 : Int32) ≤ 5 := by decide
    exact br_f h2 (br_t h5 (nm_r (zd_sh 2 (by decide)) (br_f h2 (nm_r (zd_sh 2 (by decide)) ⟨2, 0, _, _, _, _, by decide, by decide, rfl, rfl⟩))))
/-! indices -/
theorem zd_ix1 (a x : Nat) : nI a * 32 + nI x = nI (32 * a + x) := by
  show nI a * nI 32 + nI x = _
  rw [pk_mul, nI_add, Nat.mul_comm]
theorem zd_ix2 (a x : Nat) : 32 * nI a + nI x = nI (32 * a + x) := by
  show nI 32 * nI a + nI x = _
  rw [pk_mul, nI_add]
theorem zd_c1 {a x : Nat} (h : 32 * a + x < 16128) : (nI a * 32 + nI x).toNatClampNeg = 32 * a + x := by
  rw [zd_ix1, nI_clamp (by omega)]
theorem zd_c2 {a x : Nat} (h : 32 * a + x < 16128) : (32 * nI a + nI x).toNatClampNeg = 32 * a + x := by
  rw [zd_ix2, nI_clamp (by omega)]
theorem zd_v1 {a x N : Nat} (h : 32 * a + x < N) (hN : N < 16129) : vp_in (nI a * 32 + nI x) N := by
  rw [zd_ix1]; exact vp_in_nI h (by omega)
theorem zd_v2 {a x N : Nat} (h : 32 * a + x < N) (hN : N < 16129) : vp_in (32 * nI a + nI x) N := by
  rw [zd_ix2]; exact vp_in_nI h (by omega)
/-! the copy of a row to place d -/
def zd_cp (a : Nat → Int32) (d m : Nat) (g : Nat → Int32) : Nat → Int32 := fun j => if 32 * d ≤ j ∧ j < 32 * d + m then g (j - 32 * d) else a j
theorem zd_cp0 (a : Nat → Int32) (d : Nat) (g : Nat → Int32) : zd_cp a d 0 g = a := by
  funext j
  unfold zd_cp
  rw [if_neg (by omega)]
theorem zd_cpi (a : Nat → Int32) (d m : Nat) (g : Nat → Int32) {x : Nat} (h : x < m) : zd_cp a d m g (32 * d + x) = g x := by
  unfold zd_cp
  rw [if_pos (by omega), Nat.add_sub_cancel_left]
theorem zd_cpo (a : Nat → Int32) (d m : Nat) (g : Nat → Int32) {e x : Nat} (he : e ≠ d) (hx : x < 32) (hm : m ≤ 32) : zd_cp a d m g (32 * e + x) = a (32 * e + x) := by
  unfold zd_cp
  rw [if_neg (by omega)]
theorem zd_cps (a : Nat → Int32) (d i : Nat) (g : Nat → Int32) : upd (zd_cp a d i g) (32 * d + i) (g i) = zd_cp a d (i + 1) g := by
  funext j
  by_cases h : j = 32 * d + i
  · subst h
    rw [pk_us, zd_cpi a d (i + 1) g (by omega)]
  · rw [pk_un h]
    unfold zd_cp
    by_cases h1 : 32 * d ≤ j ∧ j < 32 * d + i
    · rw [if_pos h1, if_pos (by omega)]
    · rw [if_neg h1, if_neg (by omega)]
theorem zd_put {post : SX → Prop} {d m : Nat} {fv pf : Int32} {vals made pv g : Nat → Int32} (hd : d < 8) (hm : m ≤ 32) (hg : ∀ x, x < m → made x = g x) (hp : post (fv, nI m, pf, zd_cp vals d m g, made, pv)) : wpX_putMade post (fv, nI m, pf, vals, made, pv) (nI d) :=
  loop_0 (fun n i s => wX_putMade_2 post (nI d) fv (nI m) pf n (nI i) s made pv) (fun i s => s = zd_cp vals d i g) m vals (zd_cp0 _ _ _).symm
    (fun n s hI => br_t (nI_le (Nat.le_refl m) (by omega)) (by subst hI; exact hp))
    (fun n i s hi hI K => br_f (nI_ge hi (by omega)) ⟨vp_in_nI (by omega) (by omega), zd_v1 (by omega) (by omega), fun a ea y ey => by
      rw [ea, ey, nI_1, zd_c1 (by omega), nI_clamp (by omega), hg i hi, hI, zd_cps]
      exact K _ rfl⟩)
theorem zd_keep {post : Int32 → SY → Prop} {d m : Nat} {fv : Int32} {vals res g : Nat → Int32} (hd : d < 8) (hm : m ≤ 32) (hg : ∀ x, x < m → res x = g x) (hp : post 1 (fv, nI m, zd_cp vals d m g, res)) : wpY_keep post (fv, nI m, vals, res) (nI d) :=
  loop_0 (fun n i s => wY_keep_2 post (nI d) fv (nI m) n (nI i) s res) (fun i s => s = zd_cp vals d i g) m vals (zd_cp0 _ _ _).symm
    (fun n s hI => br_t (nI_le (Nat.le_refl m) (by omega)) (by subst hI; exact hp))
    (fun n i s hi hI K => br_f (nI_ge hi (by omega)) ⟨vp_in_nI (by omega) (by omega), zd_v2 (by omega) (by omega), fun a ea y ey => by
      rw [ea, ey, nI_1, zd_c2 (by omega), nI_clamp (by omega), hg i hi, hI, zd_cps]
      exact K _ rfl⟩)
theorem zd_nb : narrow .boolean (.int (1 : Int32)) = .int (1 : Int32) := by first | rfl | exact lw_bz_n 1 | decide
/-- one turn of a loop that fills the scratch row -/
theorem zd_st {P : Int32 → (Nat → Int32) → Prop} {s g : Nat → Int32} {i : Nat} {w : Int32} (hi : i < 32) (hI : ∀ x, x < i → s x = g x) (hw : w = g i) (K : ∀ s', (∀ x, x < i + 1 → s' x = g x) → P (nI (i + 1)) s') : vp_in (nI i) 32 ∧ ∀ a, a = upd s (nI i).toNatClampNeg w → ∀ y, y = nI i + 1 → P y a := by
  refine ⟨vp_in_nI hi (by omega), fun a ea y ey => ?_⟩
  rw [ey, nI_1]
  refine K a (fun x hx => ?_)
  rw [ea, nI_clamp (by omega)]
  by_cases h : x = i
  · subst h; rw [pk_us]; exact hw
  · rw [pk_un h]; exact hI x (by omega)
/-! the guards -/
def zd_in (n : Nat) (x : Int32) : Prop := ∃ j : Nat, j < n ∧ x = nI j
theorem zd_in_iff {n : Nat} (hn : n < 2 ^ 31) {x : Int32} : zd_in n x ↔ ¬ x < 0 ∧ ¬ nI n ≤ x := by
  constructor
  · rintro ⟨j, hj, rfl⟩
    exact ⟨nI_pos (by omega), nI_ge hj hn⟩
  · rintro ⟨h0, h⟩
    obtain ⟨j, hj, rfl⟩ := nI_of h0
    rw [nI_leI hn hj] at h
    exact ⟨j, by omega, rfl⟩
theorem zd_in_iff' {n : Nat} (hn : n + 1 < 2 ^ 31) {x : Int32} : zd_in (n + 1) x ↔ ¬ x < 0 ∧ ¬ nI n < x := by
  constructor
  · rintro ⟨j, hj, rfl⟩
    exact ⟨nI_pos (by omega), nI_nlt (by omega) (by omega)⟩
  · rintro ⟨h0, h⟩
    obtain ⟨j, hj, rfl⟩ := nI_of h0
    rw [nI_ltI (by omega) hj] at h
    exact ⟨j, by omega, rfl⟩
theorem zd_0 {A B : Prop} (h : A) : ((0 : Int32) = 0 → A) ∧ (¬ (0 : Int32) = 0 → B) := br_t rfl h
theorem zd_1 {A B : Prop} (h : B) : ((1 : Int32) = 0 → A) ∧ (¬ (1 : Int32) = 0 → B) := br_f (by decide) h
theorem zd_gX {A B : Prop} {x : Int32} (hA : ¬ zd_in 8 x → A) (hB : zd_in 8 x → B) : wpX_isPlace (fun r => (r = 0 → A) ∧ (¬ r = 0 → B)) x :=
  br_c (fun h => zd_0 (hA fun z => ((zd_in_iff (by decide)).mp z).1 h)) (fun h => br_c (fun h8 => zd_0 (hA fun z => ((zd_in_iff (by decide)).mp z).2 h8)) (fun h8 => zd_1 (hB ((zd_in_iff (by decide)).mpr ⟨h, h8⟩))))
theorem zd_gY {A B : Prop} {x a b : Int32} {va re : Nat → Int32} (hA : ¬ zd_in 8 x → A) (hB : zd_in 8 x → B) : wpY_isPlace (fun r => (r = 0 → A) ∧ (¬ r = 0 → B)) (a, b, va, re) x :=
  br_c (fun h => zd_0 (hA fun z => ((zd_in_iff' (n := 7) (by decide)).mp z).1 h)) (fun h => br_c (fun h8 => zd_0 (hA fun z => ((zd_in_iff' (n := 7) (by decide)).mp z).2 h8)) (fun h8 => zd_1 (hB ((zd_in_iff' (n := 7) (by decide)).mpr ⟨h, h8⟩))))
theorem zd_gOX {A B : Prop} {x : Int32} (hA : ¬ zd_in 7 x → A) (hB : zd_in 7 x → B) : wpX_isOperation (fun r => (r = 0 → A) ∧ (¬ r = 0 → B)) x :=
  br_c (fun h => zd_0 (hA fun z => ((zd_in_iff' (n := 6) (by decide)).mp z).1 h)) (fun h => br_c (fun h8 => zd_0 (hA fun z => ((zd_in_iff' (n := 6) (by decide)).mp z).2 h8)) (fun h8 => zd_1 (hB ((zd_in_iff' (n := 6) (by decide)).mpr ⟨h, h8⟩))))
theorem zd_gOY {A B : Prop} {x : Int32} (hA : ¬ zd_in 7 x → A) (hB : zd_in 7 x → B) : (x < 0 → A) ∧ (¬ x < 0 → (6 < x → A) ∧ (¬ 6 < x → B)) :=
  br_c (fun h => hA fun z => ((zd_in_iff' (n := 6) (by decide)).mp z).1 h) (fun h => br_c (fun h8 => hA fun z => ((zd_in_iff' (n := 6) (by decide)).mp z).2 h8) (fun h8 => hB ((zd_in_iff' (n := 6) (by decide)).mpr ⟨h, h8⟩)))
theorem zd_gOZ {A B : Prop} {x : Int32} (hA : ¬ zd_in 7 x → A) (hB : zd_in 7 x → B) : (x < 0 → A) ∧ (¬ x < 0 → (x ≤ 6 → B) ∧ (¬ x ≤ 6 → A)) :=
  br_c (fun h => hA fun z => ((zd_in_iff' (n := 6) (by decide)).mp z).1 h) (fun h => br_c (fun h8 => hB ((zd_in_iff' (n := 6) (by decide)).mpr ⟨h, Int32.not_lt.mpr h8⟩)) (fun h8 => hA fun z => h8 (Int32.not_lt.mp ((zd_in_iff' (n := 6) (by decide)).mp z).2)))
theorem zd_gVX {A B : Prop} {x b c : Int32} {V : Nat} {va ma pv : Nat → Int32} (hV : V < 6) (hA : ¬ zd_in V x → A) (hB : zd_in V x → B) : wpX_isVariable (fun r => (r = 0 → A) ∧ (¬ r = 0 → B)) (nI V, b, c, va, ma, pv) x :=
  br_c (fun h => zd_0 (hA fun z => ((zd_in_iff (by omega)).mp z).1 h)) (fun h => br_c (fun h8 => zd_0 (hA fun z => ((zd_in_iff (by omega)).mp z).2 h8)) (fun h8 => zd_1 (hB ((zd_in_iff (by omega)).mpr ⟨h, h8⟩))))
theorem zd_gVY {A B : Prop} {x b : Int32} {V : Nat} {va re : Nat → Int32} (hV : V < 6) (hA : ¬ zd_in V x → A) (hB : zd_in V x → B) : wpY_isVariable (fun r => (r = 0 → A) ∧ (¬ r = 0 → B)) (nI V, b, va, re) x :=
  br_c (fun h => zd_0 (hA fun z => ((zd_in_iff (by omega)).mp z).1 h)) (fun h => br_c (fun h8 => zd_0 (hA fun z => ((zd_in_iff (by omega)).mp z).2 h8)) (fun h8 => zd_1 (hB ((zd_in_iff (by omega)).mpr ⟨h, h8⟩))))
