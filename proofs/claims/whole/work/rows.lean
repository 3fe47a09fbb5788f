section
theorem pk_us {f : Nat → Int32} {k : Nat} {x : Int32} : upd f k x k = x := if_pos rfl
theorem pk_un {f : Nat → Int32} {k j : Nat} {x : Int32} (h : j ≠ k) : upd f k x j = f j := if_neg h
theorem pk_mul (a b : Nat) : nI a * nI b = nI (a * b) := (Int32.ofNat_mul a b).symm
theorem pk_loop {σ : Type} (W : Nat → Nat → σ → Prop) (I : Nat → σ → Prop) (e i0 : Nat) (s : σ) (hi : i0 ≤ e) (h0 : I i0 s) (hx : ∀ n s, I e s → W (n + 1) e s)
    (hs : ∀ n i s, i < e → I i s → (∀ s', I (i + 1) s' → W n (i + 1) s') → W (n + 1) i s) : ∃ n, W n i0 s :=
  ⟨e + 1, loop_i W I e hx hs (e + 1) i0 s hi (by omega) h0⟩
/-- the two tables of values are the same function; what a call writes before it reads it is free -/
def i_Rel (_ : Nat) (u : SX) (v : SY) : Prop := ∃ (V : Nat) (pf : Int32) (vals made pv res : Nat → Int32), 2 ≤ V ∧ V < 6 ∧ u = (nI V, nI (2 ^ V), pf, vals, made, pv) ∧ v = (nI V, nI (2 ^ V), vals, res)
theorem i_up {k : Nat} {u : SX} {v : SY} (h : i_Rel k u v) : i_Rel (k + 5) u v := h
theorem zd_m : ∀ V, V < 6 → 2 ^ V ≤ 32 := by decide
theorem zd_sh : ∀ V, V < 6 → (1 : Int32) <<< (nI V &&& 31) = nI (2 ^ V) := by decide +kernel
theorem i_vc0 (k0 : Int32) : wpX_init (fun u => wpY_init (fun v => i_Rel 1 u v) k0) k0 := by
  by_cases h2 : (2 : Int32) ≤ k0
  · by_cases h5 : k0 ≤ (5 : Int32)
    · have h0 : ¬ k0 < 0 := Int32.not_lt.mpr (Int32.le_trans (by decide) h2)
      obtain ⟨j, hj, rfl⟩ := nI_of h0
      have h2' : 2 ≤ j := (nI_leI (a := 2) (by decide) hj).mp h2
      have h5' : j ≤ 5 := (nI_leI (b := 5) hj (by decide)).mp h5
      exact br_t h2 (br_t h5 (nm_r (zd_sh j (by omega)) (br_t h2 (br_t h5 (nm_r (zd_sh j (by omega)) ⟨j, 0, _, _, _, _, h2', by omega, rfl, rfl⟩)))))
    · exact br_t h2 (br_f h5 (nm_r (zd_sh 5 (by decide)) (br_t h2 (br_f h5 (nm_r (zd_sh 5 (by decide)) ⟨5, 0, _, _, _, _, by decide, by decide, rfl, rfl⟩)))))
  · have h5 : (2 : Int32) ≤ 5 := by decide
    exact br_f h2 (br_t h5 (nm_r (zd_sh 2 (by decide)) (br_f h2 (nm_r (zd_sh 2 (by decide)) ⟨2, 0, _, _, _, _, by decide, by decide, rfl, rfl⟩))))
/-! indices -/
theorem zd_ix1 (a x : Nat) : nI a * 32 + nI x = nI (32 * a + x) := by
  show nI a * nI 32 + nI x = _
  rw [pk_mul, nI_add, Nat.mul_comm]
theorem zd_ix2 (a x : Nat) : 32 * nI a + nI x = nI (32 * a + x) := by
  show nI 32 * nI a + nI x = _
  rw [pk_mul, nI_add]
theorem zd_c1 {a x : Nat} (h : 32 * a + x < 16128) : (nI a * 32 + nI x).toNatClampNeg = 32 * a + x := by
  rw [zd_ix1, nI_clamp (by omega)]
theorem zd_c2 {a x : Nat} (h : 32 * a + x < 16128) : (32 * nI a + nI x).toNatClampNeg = 32 * a + x := by
  rw [zd_ix2, nI_clamp (by omega)]
theorem zd_v1 {a x N : Nat} (h : 32 * a + x < N) (hN : N < 16129) : vp_in (nI a * 32 + nI x) N := by
  rw [zd_ix1]; exact vp_in_nI h (by omega)
theorem zd_v2 {a x N : Nat} (h : 32 * a + x < N) (hN : N < 16129) : vp_in (32 * nI a + nI x) N := by
  rw [zd_ix2]; exact vp_in_nI h (by omega)
/-! the copy of a row to place d -/
def zd_cp (a : Nat → Int32) (d m : Nat) (g : Nat → Int32) : Nat → Int32 := fun j => if 32 * d ≤ j ∧ j < 32 * d + m then g (j - 32 * d) else a j
theorem zd_cp0 (a : Nat → Int32) (d : Nat) (g : Nat → Int32) : zd_cp a d 0 g = a := by
  funext j
  unfold zd_cp
  rw [if_neg (by omega)]
theorem zd_cpi (a : Nat → Int32) (d m : Nat) (g : Nat → Int32) {x : Nat} (h : x < m) : zd_cp a d m g (32 * d + x) = g x := by
  unfold zd_cp
  rw [if_pos (by omega), Nat.add_sub_cancel_left]
theorem zd_cpo (a : Nat → Int32) (d m : Nat) (g : Nat → Int32) {e x : Nat} (he : e ≠ d) (hx : x < 32) (hm : m ≤ 32) : zd_cp a d m g (32 * e + x) = a (32 * e + x) := by
  unfold zd_cp
  rw [if_neg (by omega)]
theorem zd_cps (a : Nat → Int32) (d i : Nat) (g : Nat → Int32) : upd (zd_cp a d i g) (32 * d + i) (g i) = zd_cp a d (i + 1) g := by
  funext j
  by_cases h : j = 32 * d + i
  · subst h
    rw [pk_us, zd_cpi a d (i + 1) g (by omega)]
  · rw [pk_un h]
    unfold zd_cp
    by_cases h1 : 32 * d ≤ j ∧ j < 32 * d + i
    · rw [if_pos h1, if_pos (by omega)]
    · rw [if_neg h1, if_neg (by omega)]
theorem zd_put {post : SX → Prop} {d m : Nat} {fv pf : Int32} {vals made pv g : Nat → Int32} (hd : d < 8) (hm : m ≤ 32) (hg : ∀ x, x < m → made x = g x) (hp : post (fv, nI m, pf, zd_cp vals d m g, made, pv)) : wpX_putMade post (fv, nI m, pf, vals, made, pv) (nI d) :=
  loop_0 (fun n i s => wX_putMade_2 post (nI d) fv (nI m) pf n (nI i) s made pv) (fun i s => s = zd_cp vals d i g) m vals (zd_cp0 _ _ _).symm
    (fun n s hI => br_t (nI_le (Nat.le_refl m) (by omega)) (by subst hI; exact hp))
    (fun n i s hi hI K => br_f (nI_ge hi (by omega)) ⟨vp_in_nI (by omega) (by omega), zd_v1 (by omega) (by omega), fun a ea y ey => by
      rw [ea, ey, nI_1, zd_c1 (by omega), nI_clamp (by omega), hg i hi, hI, zd_cps]
      exact K _ rfl⟩)
theorem zd_keep {post : Int32 → SY → Prop} {d m : Nat} {fv : Int32} {vals res g : Nat → Int32} (hd : d < 8) (hm : m ≤ 32) (hg : ∀ x, x < m → res x = g x) (hp : post 1 (fv, nI m, zd_cp vals d m g, res)) : wpY_keep post (fv, nI m, vals, res) (nI d) :=
  loop_0 (fun n i s => wY_keep_2 post (nI d) fv (nI m) n (nI i) s res) (fun i s => s = zd_cp vals d i g) m vals (zd_cp0 _ _ _).symm
    (fun n s hI => br_t (nI_le (Nat.le_refl m) (by omega)) (by subst hI; exact hp))
    (fun n i s hi hI K => br_f (nI_ge hi (by omega)) ⟨vp_in_nI (by omega) (by omega), zd_v2 (by omega) (by omega), fun a ea y ey => by
      rw [ea, ey, nI_1, zd_c2 (by omega), nI_clamp (by omega), hg i hi, hI, zd_cps]
      exact K _ rfl⟩)
theorem zd_nb : narrow .boolean (.int (1 : Int32)) = .int (1 : Int32) := by first | rfl | exact lw_bz_n 1 | decide
/-- one turn of a loop that fills the scratch row -/
theorem zd_st {P : Int32 → (Nat → Int32) → Prop} {s g : Nat → Int32} {i : Nat} {w : Int32} (hi : i < 32) (hI : ∀ x, x < i → s x = g x) (hw : w = g i) (K : ∀ s', (∀ x, x < i + 1 → s' x = g x) → P (nI (i + 1)) s') : vp_in (nI i) 32 ∧ ∀ a, a = upd s (nI i).toNatClampNeg w → ∀ y, y = nI i + 1 → P y a := by
  refine ⟨vp_in_nI hi (by omega), fun a ea y ey => ?_⟩
  rw [ey, nI_1]
  refine K a (fun x hx => ?_)
  rw [ea, nI_clamp (by omega)]
  by_cases h : x = i
  · subst h; rw [pk_us]; exact hw
  · rw [pk_un h]; exact hI x (by omega)
/-! the guards -/
def zd_in (n : Nat) (x : Int32) : Prop := ∃ j : Nat, j < n ∧ x = nI j
theorem zd_in_iff {n : Nat} (hn : n < 2 ^ 31) {x : Int32} : zd_in n x ↔ ¬ x < 0 ∧ ¬ nI n ≤ x := by
  constructor
  · rintro ⟨j, hj, rfl⟩
    exact ⟨nI_pos (by omega), nI_ge hj hn⟩
  · rintro ⟨h0, h⟩
    obtain ⟨j, hj, rfl⟩ := nI_of h0
    rw [nI_leI hn hj] at h
    exact ⟨j, by omega, rfl⟩
theorem zd_in_iff' {n : Nat} (hn : n + 1 < 2 ^ 31) {x : Int32} : zd_in (n + 1) x ↔ ¬ x < 0 ∧ ¬ nI n < x := by
  constructor
  · rintro ⟨j, hj, rfl⟩
    exact ⟨nI_pos (by omega), nI_nlt (by omega) (by omega)⟩
  · rintro ⟨h0, h⟩
    obtain ⟨j, hj, rfl⟩ := nI_of h0
    rw [nI_ltI (by omega) hj] at h
    exact ⟨j, by omega, rfl⟩
theorem zd_0 {A B : Prop} (h : A) : ((0 : Int32) = 0 → A) ∧ (¬ (0 : Int32) = 0 → B) := br_t rfl h
theorem zd_1 {A B : Prop} (h : B) : ((1 : Int32) = 0 → A) ∧ (¬ (1 : Int32) = 0 → B) := br_f (by decide) h
theorem zd_gX {A B : Prop} {x : Int32} (hA : ¬ zd_in 8 x → A) (hB : zd_in 8 x → B) : wpX_isPlace (fun r => (r = 0 → A) ∧ (¬ r = 0 → B)) x :=
  br_c (fun h => zd_0 (hA fun z => ((zd_in_iff (by decide)).mp z).1 h)) (fun h => br_c (fun h8 => zd_0 (hA fun z => ((zd_in_iff (by decide)).mp z).2 h8)) (fun h8 => zd_1 (hB ((zd_in_iff (by decide)).mpr ⟨h, h8⟩))))
theorem zd_gY {A B : Prop} {x a b : Int32} {va re : Nat → Int32} (hA : ¬ zd_in 8 x → A) (hB : zd_in 8 x → B) : wpY_isPlace (fun r => (r = 0 → A) ∧ (¬ r = 0 → B)) (a, b, va, re) x :=
  br_c (fun h => zd_0 (hA fun z => ((zd_in_iff' (n := 7) (by decide)).mp z).1 h)) (fun h => br_c (fun h8 => zd_0 (hA fun z => ((zd_in_iff' (n := 7) (by decide)).mp z).2 h8)) (fun h8 => zd_1 (hB ((zd_in_iff' (n := 7) (by decide)).mpr ⟨h, h8⟩))))
theorem zd_gOX {A B : Prop} {x : Int32} (hA : ¬ zd_in 7 x → A) (hB : zd_in 7 x → B) : wpX_isOperation (fun r => (r = 0 → A) ∧ (¬ r = 0 → B)) x :=
  br_c (fun h => zd_0 (hA fun z => ((zd_in_iff' (n := 6) (by decide)).mp z).1 h)) (fun h => br_c (fun h8 => zd_0 (hA fun z => ((zd_in_iff' (n := 6) (by decide)).mp z).2 h8)) (fun h8 => zd_1 (hB ((zd_in_iff' (n := 6) (by decide)).mpr ⟨h, h8⟩))))
theorem zd_gOY {A B : Prop} {x : Int32} (hA : ¬ zd_in 7 x → A) (hB : zd_in 7 x → B) : (x < 0 → A) ∧ (¬ x < 0 → (6 < x → A) ∧ (¬ 6 < x → B)) :=
  br_c (fun h => hA fun z => ((zd_in_iff' (n := 6) (by decide)).mp z).1 h) (fun h => br_c (fun h8 => hA fun z => ((zd_in_iff' (n := 6) (by decide)).mp z).2 h8) (fun h8 => hB ((zd_in_iff' (n := 6) (by decide)).mpr ⟨h, h8⟩)))
theorem zd_gOZ {A B : Prop} {x : Int32} (hA : ¬ zd_in 7 x → A) (hB : zd_in 7 x → B) : (x < 0 → A) ∧ (¬ x < 0 → (x ≤ 6 → B) ∧ (¬ x ≤ 6 → A)) :=
  br_c (fun h => hA fun z => ((zd_in_iff' (n := 6) (by decide)).mp z).1 h) (fun h => br_c (fun h8 => hB ((zd_in_iff' (n := 6) (by decide)).mpr ⟨h, Int32.not_lt.mpr h8⟩)) (fun h8 => hA fun z => h8 (Int32.not_lt.mp ((zd_in_iff' (n := 6) (by decide)).mp z).2)))
theorem zd_gVX {A B : Prop} {x b c : Int32} {V : Nat} {va ma pv : Nat → Int32} (hV : V < 6) (hA : ¬ zd_in V x → A) (hB : zd_in V x → B) : wpX_isVariable (fun r => (r = 0 → A) ∧ (¬ r = 0 → B)) (nI V, b, c, va, ma, pv) x :=
  br_c (fun h => zd_0 (hA fun z => ((zd_in_iff (by omega)).mp z).1 h)) (fun h => br_c (fun h8 => zd_0 (hA fun z => ((zd_in_iff (by omega)).mp z).2 h8)) (fun h8 => zd_1 (hB ((zd_in_iff (by omega)).mpr ⟨h, h8⟩))))
theorem zd_gVY {A B : Prop} {x b : Int32} {V : Nat} {va re : Nat → Int32} (hV : V < 6) (hA : ¬ zd_in V x → A) (hB : zd_in V x → B) : wpY_isVariable (fun r => (r = 0 → A) ∧ (¬ r = 0 → B)) (nI V, b, va, re) x :=
  br_c (fun h => zd_0 (hA fun z => ((zd_in_iff (by omega)).mp z).1 h)) (fun h => br_c (fun h8 => zd_0 (hA fun z => ((zd_in_iff (by omega)).mp z).2 h8)) (fun h8 => zd_1 (hB ((zd_in_iff (by omega)).mpr ⟨h, h8⟩))))
end
section
/-! bits: what the two sides reckon of x and v, by closed tables -/
def zd_cl (x v : Nat) : Nat := (nI x &&& (((1 : Int32) <<< (nI v &&& 31)) ^^^ (-1))).toNatClampNeg
def zd_se (x v : Nat) : Nat := (nI x ||| ((1 : Int32) <<< (nI v &&& 31))).toNatClampNeg
def zd_fl (x v : Nat) : Nat := (nI x ^^^ ((1 : Int32) <<< (nI v &&& 31))).toNatClampNeg
theorem zd_tcl : ∀ V, V < 6 → ∀ x, x < 2 ^ V → ∀ v, v < V → nI x &&& (((1 : Int32) <<< (nI v &&& 31)) ^^^ (-1)) = nI (zd_cl x v) ∧ zd_cl x v < 2 ^ V := by decide +kernel
theorem zd_tse : ∀ V, V < 6 → ∀ x, x < 2 ^ V → ∀ v, v < V → nI x ||| ((1 : Int32) <<< (nI v &&& 31)) = nI (zd_se x v) ∧ zd_se x v < 2 ^ V := by decide +kernel
theorem zd_tfl : ∀ V, V < 6 → ∀ x, x < 2 ^ V → ∀ v, v < V → nI x ^^^ ((1 : Int32) <<< (nI v &&& 31)) = nI (zd_fl x v) ∧ zd_fl x v < 2 ^ V := by decide +kernel
def zd_bi (x v : Nat) : Int32 := (nI x >>> (nI v &&& 31)) &&& 1
def zd_ex (x u v : Nat) : Nat := if zd_bi x u = zd_bi x v then x else ((nI x ^^^ ((1 : Int32) <<< (nI u &&& 31))) ^^^ ((1 : Int32) <<< (nI v &&& 31))).toNatClampNeg
def zd_wi (p q r : Int32) : Int32 := if r = 1 then p ||| ((1 : Int32) <<< (q &&& 31)) else p &&& (((1 : Int32) <<< (q &&& 31)) ^^^ (-1))
theorem zd_tex0 : ∀ V, V < 6 → ∀ x, x < 2 ^ V → ∀ u, u < V → ∀ v, v < V → zd_ex x u v < 2 ^ V := by decide +kernel
theorem zd_tex1 : ∀ V, V < 6 → ∀ x, x < 2 ^ V → ∀ u, u < V → ∀ v, v < V → zd_bi x u = zd_bi x v ∨ (nI x ^^^ ((1 : Int32) <<< (nI u &&& 31))) ^^^ ((1 : Int32) <<< (nI v &&& 31)) = nI (zd_ex x u v) := by decide +kernel
theorem zd_tex2 : ∀ V, V < 6 → ∀ x, x < 2 ^ V → ∀ u, u < V → ∀ v, v < V → zd_wi (zd_wi (nI x) (nI u) (zd_bi x v)) (nI v) (zd_bi x u) = nI (zd_ex x u v) := by decide +kernel
theorem zd_with {post : Int32 → Prop} {a b : Int32} {va re : Nat → Int32} {p q r : Int32} (h : post (zd_wi p q r)) : wpY_with post (a, b, va, re) p q r := by
  by_cases e : r = 1
  · refine br_t e ?_
    unfold zd_wi at h
    rw [if_pos e] at h
    exact h
  · refine br_f e ?_
    unfold zd_wi at h
    rw [if_neg e] at h
    exact h
theorem zd_bit {post : Int32 → Prop} {a b : Int32} {va re : Nat → Int32} {p q : Int32} (h : post ((p >>> (q &&& 31)) &&& 1)) : wpY_bit post (a, b, va, re) p q := h
theorem zd_wex {post : Int32 → Prop} {V x u v : Nat} (hV : V < 6) (hx : x < 2 ^ V) (hu : u < V) (hv : v < V) (h : post (nI (zd_ex x u v))) : wpX_withExchanged post (nI x) (nI u) (nI v) := by
  refine nm_e (nm_e ?_)
  by_cases e : zd_bi x u = zd_bi x v
  · refine br_t e ?_
    unfold zd_ex at h
    rw [if_pos e] at h
    exact h
  · refine br_f e ?_
    rw [(zd_tex1 V hV x hx u hu v hv).resolve_left e]
    exact h
/-! the seven operations -/
def zd_op (o : Nat) (p q : Int32) : Int32 := match o with
  | 0 => p + q
  | 1 => p - q
  | 2 => p * q
  | 3 => if q ≤ p then q else p
  | 4 => if p ≤ q then q else p
  | 5 => if q ≤ p then 0 else 1
  | _ => if p = q then 1 else 0
theorem zd_if {c : Prop} {post : Int32 → Prop} (d : Decidable c) {a b : Int32} (h : post (@ite Int32 c d a b)) : (c → post a) ∧ (¬ c → post b) := by
  by_cases e : c
  · rw [if_pos e] at h
    exact br_t e h
  · rw [if_neg e] at h
    exact br_f e h
theorem zd_comb {post : Int32 → Prop} {o : Nat} {p q : Int32} (ho : o < 7) (h : post (zd_op o p q)) : wpX_combine post (nI o) p q := by
  obtain rfl | rfl | rfl | rfl | rfl | rfl | rfl : o = 0 ∨ o = 1 ∨ o = 2 ∨ o = 3 ∨ o = 4 ∨ o = 5 ∨ o = 6 := by omega
  · exact br_f (by decide) (br_f (by decide) (br_t (by decide) h))
  · exact br_f (by decide) (br_f (by decide) (br_f (by decide) (br_t (by decide) h)))
  · exact br_f (by decide) (br_f (by decide) (br_f (by decide) (br_f (by decide) (br_t (by decide) h))))
  · exact br_f (by decide) (br_f (by decide) (br_f (by decide) (br_f (by decide) (br_f (by decide) (br_t (by decide) (zd_if _ h))))))
  · exact br_f (by decide) (br_f (by decide) (br_f (by decide) (br_f (by decide) (br_f (by decide) (br_f (by decide) (br_t (by decide) (zd_if _ h)))))))
  · exact br_f (by decide) (br_f (by decide) (br_f (by decide) (br_f (by decide) (br_f (by decide) (br_f (by decide) (br_f (by decide) (br_t (by decide) (zd_if _ h))))))))
  · exact br_f (by decide) (br_t (by decide) (zd_if _ h))
theorem zd_oper {post : Int32 → Prop} {o : Nat} {p q a b : Int32} {va re : Nat → Int32} (ho : o < 7) (h : post (zd_op o p q)) : wpY_op post (a, b, va, re) (nI o) p q := by
  obtain rfl | rfl | rfl | rfl | rfl | rfl | rfl : o = 0 ∨ o = 1 ∨ o = 2 ∨ o = 3 ∨ o = 4 ∨ o = 5 ∨ o = 6 := by omega
  · exact br_t (by decide) h
  · exact br_f (by decide) (br_t (by decide) h)
  · exact br_f (by decide) (br_f (by decide) (br_t (by decide) h))
  · exact br_f (by decide) (br_f (by decide) (br_f (by decide) (br_t (by decide) (zd_if _ h))))
  · exact br_f (by decide) (br_f (by decide) (br_f (by decide) (br_f (by decide) (br_t (by decide) (zd_if _ h)))))
  · exact br_f (by decide) (br_f (by decide) (br_f (by decide) (br_f (by decide) (br_f (by decide) (br_t (by decide) (zd_if _ h))))))
  · exact br_f (by decide) (br_f (by decide) (br_f (by decide) (br_f (by decide) (br_f (by decide) (br_f (by decide) (zd_if _ h))))))
end
section
/-! the loops that fill the scratch row, on both sides against one row g -/
section
variable {d m a b c o V u v : Nat} {fv pf cc : Int32} {vals made pv res : Nat → Int32} {post : Int32 → SX → Prop} {posy : Int32 → SY → Prop}
theorem zd_xconstant (hd : d < 8) (hm : m ≤ 32) (hp : ∀ z, post 1 (fv, nI m, pf, zd_cp vals d m (fun _ => cc), z, pv)) : ∃ n, wX_constant_11 post (nI d) cc fv (nI m) pf n 0 vals made pv :=
  loop_0 (fun n i s => wX_constant_11 post (nI d) cc fv (nI m) pf n (nI i) vals s pv) (fun i s => ∀ x, x < i → s x = (fun _ => cc) x) m made lt_0
    (fun n s hI => br_t (nI_le (Nat.le_refl m) (by omega)) (zd_put hd hm hI (hp s)))
    (fun n i s hi hI K => br_f (nI_ge hi (by omega)) (zd_st (by omega) hI rfl K))
theorem zd_yconstant (hd : d < 8) (hm : m ≤ 32) (hp : ∀ z, posy 1 (fv, nI m, zd_cp vals d m (fun _ => cc), z)) : ∃ n, wY_constant_12 posy (nI d) cc fv (nI m) n 0 vals res :=
  loop_0 (fun n i s => wY_constant_12 posy (nI d) cc fv (nI m) n (nI i) vals s) (fun i s => ∀ x, x < i → s x = (fun _ => cc) x) m res lt_0
    (fun n s hI => br_t (nI_le (Nat.le_refl m) (by omega)) (zd_keep hd hm hI ⟨zd_nb, hp s⟩))
    (fun n i s hi hI K => br_f (nI_ge hi (by omega)) (zd_st (by omega) hI rfl K))
theorem zd_xliteral (hd : d < 8) (hm : m ≤ 32) (hp : ∀ z, post 1 (fv, nI m, pf, zd_cp vals d m (fun x => zd_bi x v), z, pv)) : ∃ n, wX_literal_19 post (nI d) (nI v) fv (nI m) pf n 0 vals made pv :=
  loop_0 (fun n i s => wX_literal_19 post (nI d) (nI v) fv (nI m) pf n (nI i) vals s pv) (fun i s => ∀ x, x < i → s x = (fun x => zd_bi x v) x) m made lt_0
    (fun n s hI => br_t (nI_le (Nat.le_refl m) (by omega)) (zd_put hd hm hI (hp s)))
    (fun n i s hi hI K => br_f (nI_ge hi (by omega)) (zd_st (by omega) hI rfl K))
theorem zd_yliteral (hd : d < 8) (hm : m ≤ 32) (hp : ∀ z, posy 1 (fv, nI m, zd_cp vals d m (fun x => zd_bi x v), z)) : ∃ n, wY_literal_20 posy (nI d) (nI v) fv (nI m) n 0 vals res :=
  loop_0 (fun n i s => wY_literal_20 posy (nI d) (nI v) fv (nI m) n (nI i) vals s) (fun i s => ∀ x, x < i → s x = (fun x => zd_bi x v) x) m res lt_0
    (fun n s hI => br_t (nI_le (Nat.le_refl m) (by omega)) (zd_keep hd hm hI ⟨zd_nb, hp s⟩))
    (fun n i s hi hI K => br_f (nI_ge hi (by omega)) (zd_st (by omega) hI rfl K))
theorem zd_xapply (hd : d < 8) (ha : a < 8) (hb : b < 8) (ho : o < 7) (hm : m ≤ 32) (hp : ∀ z, post 1 (fv, nI m, pf, zd_cp vals d m (fun x => zd_op o (vals (32 * a + x)) (vals (32 * b + x))), z, pv)) : ∃ n, wX_apply_34 post (nI d) (nI o) (nI a) (nI b) fv (nI m) pf n 0 vals made pv :=
  loop_0 (fun n i s => wX_apply_34 post (nI d) (nI o) (nI a) (nI b) fv (nI m) pf n (nI i) vals s pv) (fun i s => ∀ x, x < i → s x = (fun x => zd_op o (vals (32 * a + x)) (vals (32 * b + x))) x) m made lt_0
    (fun n s hI => br_t (nI_le (Nat.le_refl m) (by omega)) (zd_put hd hm hI (hp s)))
    (fun n i s hi hI K => br_f (nI_ge hi (by omega)) ⟨zd_v1 (by omega) (by omega), zd_v1 (by omega) (by omega), zd_comb ho (zd_st (by omega) hI (by rw [zd_c1 (by omega), zd_c1 (by omega)]) K)⟩)
theorem zd_yapply (hd : d < 8) (ha : a < 8) (hb : b < 8) (ho : o < 7) (hm : m ≤ 32) (hp : ∀ z, posy 1 (fv, nI m, zd_cp vals d m (fun x => zd_op o (vals (32 * a + x)) (vals (32 * b + x))), z)) : ∃ n, wY_apply_40 posy (nI d) (nI o) (nI a) (nI b) fv (nI m) n 0 vals res :=
  loop_0 (fun n i s => wY_apply_40 posy (nI d) (nI o) (nI a) (nI b) fv (nI m) n (nI i) vals s) (fun i s => ∀ x, x < i → s x = (fun x => zd_op o (vals (32 * a + x)) (vals (32 * b + x))) x) m res lt_0
    (fun n s hI => br_t (nI_le (Nat.le_refl m) (by omega)) (zd_keep hd hm hI ⟨zd_nb, hp s⟩))
    (fun n i s hi hI K => br_f (nI_ge hi (by omega)) ⟨zd_v2 (by omega) (by omega), zd_v2 (by omega) (by omega), zd_oper ho (zd_st (by omega) hI (by rw [zd_c2 (by omega), zd_c2 (by omega)]) K)⟩)
theorem zd_xchoose (hd : d < 8) (hc : c < 8) (ha : a < 8) (hb : b < 8) (hm : m ≤ 32) (hp : ∀ z, post 1 (fv, nI m, pf, zd_cp vals d m (fun x => if vals (32 * c + x) = 0 then vals (32 * b + x) else vals (32 * a + x)), z, pv)) : ∃ n, wX_choose_34 post (nI d) (nI c) (nI a) (nI b) fv (nI m) pf n 0 vals made pv :=
  loop_0 (fun n i s => wX_choose_34 post (nI d) (nI c) (nI a) (nI b) fv (nI m) pf n (nI i) vals s pv) (fun i s => ∀ x, x < i → s x = (fun x => if vals (32 * c + x) = 0 then vals (32 * b + x) else vals (32 * a + x)) x) m made lt_0
    (fun n s hI => br_t (nI_le (Nat.le_refl m) (by omega)) (zd_put hd hm hI (hp s)))
    (fun n i s hi hI K => br_f (nI_ge hi (by omega)) ⟨zd_v1 (by omega) (by omega),
      br_c (fun e => ⟨zd_v1 (by omega) (by omega), zd_st (by omega) hI (by rw [zd_c1 (by omega)] at e; rw [zd_c1 (by omega)]; exact (if_pos e).symm) K⟩)
        (fun e => ⟨zd_v1 (by omega) (by omega), zd_st (by omega) hI (by rw [zd_c1 (by omega)] at e; rw [zd_c1 (by omega)]; exact (if_neg e).symm) K⟩)⟩)
theorem zd_ychoose (hd : d < 8) (hc : c < 8) (ha : a < 8) (hb : b < 8) (hm : m ≤ 32) (hp : ∀ z, posy 1 (fv, nI m, zd_cp vals d m (fun x => if vals (32 * c + x) = 0 then vals (32 * b + x) else vals (32 * a + x)), z)) : ∃ n, wY_choose_38 posy (nI d) (nI c) (nI a) (nI b) fv (nI m) n 0 vals res :=
  loop_0 (fun n i s => wY_choose_38 posy (nI d) (nI c) (nI a) (nI b) fv (nI m) n (nI i) vals s) (fun i s => ∀ x, x < i → s x = (fun x => if vals (32 * c + x) = 0 then vals (32 * b + x) else vals (32 * a + x)) x) m res lt_0
    (fun n s hI => br_t (nI_le (Nat.le_refl m) (by omega)) (zd_keep hd hm hI ⟨zd_nb, hp s⟩))
    (fun n i s hi hI K => br_f (nI_ge hi (by omega)) ⟨zd_v2 (by omega) (by omega),
      br_c (fun e => ⟨zd_v2 (by omega) (by omega), zd_st (by omega) hI (by rw [zd_c2 (by omega)] at e; rw [zd_c2 (by omega)]; exact (if_pos e).symm) K⟩)
        (fun e => ⟨zd_v2 (by omega) (by omega), zd_st (by omega) hI (by rw [zd_c2 (by omega)] at e; rw [zd_c2 (by omega)]; exact (if_neg e).symm) K⟩)⟩)
theorem zd_xfold (hV : V < 6) (hd : d < 8) (ha : a < 8) (ho : o < 7) (hv : v < V) (hp : ∀ z, post 1 (fv, nI (2 ^ V), pf, zd_cp vals d (2 ^ V) (fun x => zd_op o (vals (32 * a + zd_cl x v)) (vals (32 * a + zd_se x v))), z, pv)) : ∃ n, wX_fold_41 post (nI d) (nI o) (nI a) ((1 : Int32) <<< (nI v &&& 31)) fv (nI (2 ^ V)) pf n 0 vals made pv := by
  have hm := zd_m V hV
  have T1 := zd_tcl V hV
  have T2 := zd_tse V hV
  generalize 2 ^ V = m at *
  refine loop_0 (fun n i s => wX_fold_41 post (nI d) (nI o) (nI a) ((1 : Int32) <<< (nI v &&& 31)) fv (nI m) pf n (nI i) vals s pv) (fun i s => ∀ x, x < i → s x = (fun x => zd_op o (vals (32 * a + zd_cl x v)) (vals (32 * a + zd_se x v))) x) m made lt_0
    (fun n s hI => br_t (nI_le (Nat.le_refl m) (by omega)) (zd_put hd hm hI (hp s)))
    (fun n i s hi hI K => br_f (nI_ge hi (by omega)) ?_)
  obtain ⟨e1, b1⟩ := T1 i hi v hv
  obtain ⟨e2, b2⟩ := T2 i hi v hv
  rw [e1, e2]
  exact ⟨zd_v1 (by omega) (by omega), nm_e ⟨zd_v1 (by omega) (by omega), nm_e (zd_comb ho (zd_st (by omega) hI (by rw [zd_c1 (by omega), zd_c1 (by omega)]) K))⟩⟩
theorem zd_yfold (hV : V < 6) (hd : d < 8) (ha : a < 8) (ho : o < 7) (hv : v < V) (hp : ∀ z, posy 1 (fv, nI (2 ^ V), zd_cp vals d (2 ^ V) (fun x => zd_op o (vals (32 * a + zd_cl x v)) (vals (32 * a + zd_se x v))), z)) : ∃ n, wY_fold_40 posy (nI d) (nI o) (nI a) (nI v) fv (nI (2 ^ V)) n 0 vals res := by
  have hm := zd_m V hV
  have T1 := zd_tcl V hV
  have T2 := zd_tse V hV
  generalize 2 ^ V = m at *
  refine loop_0 (fun n i s => wY_fold_40 posy (nI d) (nI o) (nI a) (nI v) fv (nI m) n (nI i) vals s) (fun i s => ∀ x, x < i → s x = (fun x => zd_op o (vals (32 * a + zd_cl x v)) (vals (32 * a + zd_se x v))) x) m res lt_0
    (fun n s hI => br_t (nI_le (Nat.le_refl m) (by omega)) (zd_keep hd hm hI ⟨zd_nb, hp s⟩))
    (fun n i s hi hI K => br_f (nI_ge hi (by omega)) ?_)
  obtain ⟨e1, b1⟩ := T1 i hi v hv
  obtain ⟨e2, b2⟩ := T2 i hi v hv
  exact nm_r e1 (nm_r e2 ⟨zd_v2 (by omega) (by omega), zd_v2 (by omega) (by omega), zd_oper ho (zd_st (by omega) hI (by rw [zd_c2 (by omega), zd_c2 (by omega)]) K)⟩)
theorem zd_xsubstitute (hV : V < 6) (hd : d < 8) (ha : a < 8) (hb : b < 8) (hv : v < V) (hp : ∀ z, post 1 (fv, nI (2 ^ V), pf, zd_cp vals d (2 ^ V) (fun x => vals (32 * a + if vals (32 * b + x) = 0 then zd_cl x v else zd_se x v)), z, pv)) : ∃ n, wX_substitute_40 post (nI d) (nI a) (nI b) ((1 : Int32) <<< (nI v &&& 31)) fv (nI (2 ^ V)) pf n 0 vals made pv := by
  have hm := zd_m V hV
  have T1 := zd_tcl V hV
  have T2 := zd_tse V hV
  generalize 2 ^ V = m at *
  refine loop_0 (fun n i s => wX_substitute_40 post (nI d) (nI a) (nI b) ((1 : Int32) <<< (nI v &&& 31)) fv (nI m) pf n (nI i) vals s pv) (fun i s => ∀ x, x < i → s x = (fun x => vals (32 * a + if vals (32 * b + x) = 0 then zd_cl x v else zd_se x v)) x) m made lt_0
    (fun n s hI => br_t (nI_le (Nat.le_refl m) (by omega)) (zd_put hd hm hI (hp s)))
    (fun n i s hi hI K => br_f (nI_ge hi (by omega)) ⟨zd_v1 (by omega) (by omega), br_c (fun e => ?_) (fun e => ?_)⟩)
  · obtain ⟨e1, b1⟩ := T1 i hi v hv
    rw [zd_c1 (by omega)] at e
    rw [e1]
    exact ⟨zd_v1 (by omega) (by omega), zd_st (by omega) hI (by rw [zd_c1 (by omega)]; rw [if_pos e]) K⟩
  · obtain ⟨e1, b1⟩ := T2 i hi v hv
    rw [zd_c1 (by omega)] at e
    rw [e1]
    exact ⟨zd_v1 (by omega) (by omega), zd_st (by omega) hI (by rw [zd_c1 (by omega)]; rw [if_neg e]) K⟩
theorem zd_ysubstitute (hV : V < 6) (hd : d < 8) (ha : a < 8) (hb : b < 8) (hv : v < V) (hp : ∀ z, posy 1 (fv, nI (2 ^ V), zd_cp vals d (2 ^ V) (fun x => vals (32 * a + if vals (32 * b + x) = 0 then zd_cl x v else zd_se x v)), z)) : ∃ n, wY_substitute_38 posy (nI d) (nI a) (nI v) (nI b) fv (nI (2 ^ V)) n 0 vals res := by
  have hm := zd_m V hV
  have T1 := zd_tcl V hV
  have T2 := zd_tse V hV
  generalize 2 ^ V = m at *
  refine loop_0 (fun n i s => wY_substitute_38 posy (nI d) (nI a) (nI v) (nI b) fv (nI m) n (nI i) vals s) (fun i s => ∀ x, x < i → s x = (fun x => vals (32 * a + if vals (32 * b + x) = 0 then zd_cl x v else zd_se x v)) x) m res lt_0
    (fun n s hI => br_t (nI_le (Nat.le_refl m) (by omega)) (zd_keep hd hm hI ⟨zd_nb, hp s⟩))
    (fun n i s hi hI K => br_f (nI_ge hi (by omega)) ⟨zd_v2 (by omega) (by omega), br_c (fun e => br_f (by decide) ?_) (fun e => br_t rfl ?_)⟩)
  · obtain ⟨e1, b1⟩ := T1 i hi v hv
    rw [zd_c2 (by omega)] at e
    rw [e1]
    exact ⟨zd_v2 (by omega) (by omega), zd_st (by omega) hI (by rw [zd_c2 (by omega)]; rw [if_pos e]) K⟩
  · obtain ⟨e1, b1⟩ := T2 i hi v hv
    rw [zd_c2 (by omega)] at e
    rw [e1]
    exact ⟨zd_v2 (by omega) (by omega), zd_st (by omega) hI (by rw [zd_c2 (by omega)]; rw [if_neg e]) K⟩
theorem zd_xexchange (hV : V < 6) (hd : d < 8) (ha : a < 8) (hu : u < V) (hv : v < V) (hp : ∀ z, post 1 (fv, nI (2 ^ V), pf, zd_cp vals d (2 ^ V) (fun x => vals (32 * a + zd_ex x u v)), z, pv)) : ∃ n, wX_exchange_36 post (nI d) (nI a) (nI u) (nI v) fv (nI (2 ^ V)) pf n 0 vals made pv := by
  have hm := zd_m V hV
  refine loop_0 (fun n i s => wX_exchange_36 post (nI d) (nI a) (nI u) (nI v) fv (nI (2 ^ V)) pf n (nI i) vals s pv) (fun i s => ∀ x, x < i → s x = (fun x => vals (32 * a + zd_ex x u v)) x) (2 ^ V) made lt_0
    (fun n s hI => br_t (nI_le (Nat.le_refl _) (by omega)) (zd_put hd hm hI (hp s)))
    (fun n i s hi hI K => br_f (nI_ge hi (by omega)) (zd_wex hV hi hu hv ?_))
  have b1 := zd_tex0 V hV i hi u hu v hv
  exact ⟨zd_v1 (by omega) (by omega), zd_st (by omega) hI (by rw [zd_c1 (by omega)]) K⟩
theorem zd_yexchange (hV : V < 6) (hd : d < 8) (ha : a < 8) (hu : u < V) (hv : v < V) (hp : ∀ z, posy 1 (fv, nI (2 ^ V), zd_cp vals d (2 ^ V) (fun x => vals (32 * a + zd_ex x u v)), z)) : ∃ n, wY_exchange_38 posy (nI d) (nI a) (nI u) (nI v) fv (nI (2 ^ V)) n 0 vals res := by
  have hm := zd_m V hV
  refine loop_0 (fun n i s => wY_exchange_38 posy (nI d) (nI a) (nI u) (nI v) fv (nI (2 ^ V)) n (nI i) vals s) (fun i s => ∀ x, x < i → s x = (fun x => vals (32 * a + zd_ex x u v)) x) (2 ^ V) res lt_0
    (fun n s hI => br_t (nI_le (Nat.le_refl _) (by omega)) (zd_keep hd hm hI ⟨zd_nb, hp s⟩))
    (fun n i s hi hI K => br_f (nI_ge hi (by omega)) (zd_bit (zd_bit (zd_with (zd_with ?_)))))
  have b1 := zd_tex0 V hV i hi u hu v hv
  have e1 : zd_wi (zd_wi (nI i) (nI u) ((nI i >>> (nI v &&& 31)) &&& 1)) (nI v) ((nI i >>> (nI u &&& 31)) &&& 1) = nI (zd_ex i u v) := zd_tex2 V hV i hi u hu v hv
  rw [e1]
  exact ⟨zd_v2 (by omega) (by omega), zd_st (by omega) hI (by rw [zd_c2 (by omega)]) K⟩
end
end
section
/-! the owed statements of the writers -/
section
theorem i_vc_constant {k : Nat} {u : SX} {v : SY} (I : i_Rel k u v) (hk : k + 5 ≤ 2561) (v1 : Int32) (v2 : Int32) : wpX_constant (fun r u' => wpY_constant (fun r' v' => r' = r ∧ i_Rel (k + 5) u' v') v v1 v2) u v1 v2 := by
  obtain ⟨V, pf, vals, made, pv, res, h2, h5, rfl, rfl⟩ := I
  have hm := zd_m V h5
  unfold wpX_constant
  dsimp only
  refine zd_gX (fun hn => ?_) (fun hg => ?_)
  · unfold wpY_constant
    dsimp only
    exact zd_gY (fun _ => ⟨rfl, V, pf, vals, made, pv, res, h2, h5, rfl, rfl⟩) (fun hg => absurd hg hn)
  · obtain ⟨d, hd, rfl⟩ := hg
    refine zd_xconstant hd hm (fun made' => ?_)
    unfold wpY_constant
    dsimp only
    exact zd_gY (fun hn => absurd ⟨d, hd, rfl⟩ hn) (fun _ => zd_yconstant hd hm (fun res' => ⟨rfl, V, pf, _, made', pv, res', h2, h5, rfl, rfl⟩))
theorem i_vc_literal {k : Nat} {u : SX} {v : SY} (I : i_Rel k u v) (hk : k + 5 ≤ 2561) (v1 : Int32) (v2 : Int32) : wpX_literal (fun r u' => wpY_literal (fun r' v' => r' = r ∧ i_Rel (k + 5) u' v') v v1 v2) u v1 v2 := by
  obtain ⟨V, pf, vals, made, pv, res, h2, h5, rfl, rfl⟩ := I
  have hm := zd_m V h5
  have bad : ¬ (zd_in 8 v1 ∧ zd_in V v2) → wpY_literal (fun r' v' => r' = 0 ∧ i_Rel (k + 5) (nI V, nI (2 ^ V), pf, vals, made, pv) v') (nI V, nI (2 ^ V), vals, res) v1 v2 := by
    intro hn
    have R : (0 : Int32) = 0 ∧ i_Rel (k + 5) (nI V, nI (2 ^ V), pf, vals, made, pv) (nI V, nI (2 ^ V), vals, res) := ⟨rfl, V, pf, vals, made, pv, res, h2, h5, rfl, rfl⟩
    unfold wpY_literal
    dsimp only
    exact zd_gY (fun _ => R) (fun g1 => zd_gVY h5 (fun _ => R) (fun g2 => absurd ⟨g1, g2⟩ hn))
  unfold wpX_literal
  dsimp only
  refine zd_gX (fun hn => bad fun z => hn z.1) (fun g1 => zd_gVX h5 (fun hn => bad fun z => hn z.2) (fun g2 => ?_))
  obtain ⟨d, hd, rfl⟩ := g1
  obtain ⟨w, hw, rfl⟩ := g2
  refine zd_xliteral hd hm (fun made' => ?_)
  unfold wpY_literal
  dsimp only
  exact zd_gY (fun hn => absurd ⟨d, hd, rfl⟩ hn) (fun _ => zd_gVY h5 (fun hn => absurd ⟨w, hw, rfl⟩ hn) (fun _ => zd_yliteral hd hm (fun res' => ⟨rfl, V, pf, _, made', pv, res', h2, h5, rfl, rfl⟩)))
theorem i_vc_apply {k : Nat} {u : SX} {v : SY} (I : i_Rel k u v) (hk : k + 5 ≤ 2561) (v1 : Int32) (v2 : Int32) (v3 : Int32) (v4 : Int32) : wpX_apply (fun r u' => wpY_apply (fun r' v' => r' = r ∧ i_Rel (k + 5) u' v') v v1 v2 v3 v4) u v1 v2 v3 v4 := by
  obtain ⟨V, pf, vals, made, pv, res, h2, h5, rfl, rfl⟩ := I
  have hm := zd_m V h5
  have bad : ¬ (zd_in 8 v1 ∧ zd_in 7 v2 ∧ zd_in 8 v3 ∧ zd_in 8 v4) → wpY_apply (fun r' v' => r' = 0 ∧ i_Rel (k + 5) (nI V, nI (2 ^ V), pf, vals, made, pv) v') (nI V, nI (2 ^ V), vals, res) v1 v2 v3 v4 := by
    intro hn
    have R : (0 : Int32) = 0 ∧ i_Rel (k + 5) (nI V, nI (2 ^ V), pf, vals, made, pv) (nI V, nI (2 ^ V), vals, res) := ⟨rfl, V, pf, vals, made, pv, res, h2, h5, rfl, rfl⟩
    unfold wpY_apply
    dsimp only
    exact zd_gY (fun _ => R) (fun g1 => zd_gY (fun _ => R) (fun g3 => zd_gY (fun _ => R) (fun g4 => zd_gOZ (fun _ => R) (fun g2 => absurd ⟨g1, g2, g3, g4⟩ hn))))
  unfold wpX_apply
  dsimp only
  refine zd_gX (fun hn => bad fun z => hn z.1) (fun g1 => zd_gOX (fun hn => bad fun z => hn z.2.1) (fun g2 => zd_gX (fun hn => bad fun z => hn z.2.2.1) (fun g3 => zd_gX (fun hn => bad fun z => hn z.2.2.2) (fun g4 => ?_))))
  obtain ⟨d, hd, rfl⟩ := g1
  obtain ⟨o, ho, rfl⟩ := g2
  obtain ⟨a, ha, rfl⟩ := g3
  obtain ⟨b, hb, rfl⟩ := g4
  refine zd_xapply hd ha hb ho hm (fun made' => ?_)
  unfold wpY_apply
  dsimp only
  exact zd_gY (fun hn => absurd ⟨d, hd, rfl⟩ hn) (fun _ => zd_gY (fun hn => absurd ⟨a, ha, rfl⟩ hn) (fun _ => zd_gY (fun hn => absurd ⟨b, hb, rfl⟩ hn) (fun _ => zd_gOZ (fun hn => absurd ⟨o, ho, rfl⟩ hn) (fun _ => zd_yapply hd ha hb ho hm (fun res' => ⟨rfl, V, pf, _, made', pv, res', h2, h5, rfl, rfl⟩)))))
theorem i_vc_choose {k : Nat} {u : SX} {v : SY} (I : i_Rel k u v) (hk : k + 5 ≤ 2561) (v1 : Int32) (v2 : Int32) (v3 : Int32) (v4 : Int32) : wpX_choose (fun r u' => wpY_choose (fun r' v' => r' = r ∧ i_Rel (k + 5) u' v') v v1 v2 v3 v4) u v1 v2 v3 v4 := by
  obtain ⟨V, pf, vals, made, pv, res, h2, h5, rfl, rfl⟩ := I
  have hm := zd_m V h5
  have bad : ¬ (zd_in 8 v1 ∧ zd_in 8 v2 ∧ zd_in 8 v3 ∧ zd_in 8 v4) → wpY_choose (fun r' v' => r' = 0 ∧ i_Rel (k + 5) (nI V, nI (2 ^ V), pf, vals, made, pv) v') (nI V, nI (2 ^ V), vals, res) v1 v2 v3 v4 := by
    intro hn
    have R : (0 : Int32) = 0 ∧ i_Rel (k + 5) (nI V, nI (2 ^ V), pf, vals, made, pv) (nI V, nI (2 ^ V), vals, res) := ⟨rfl, V, pf, vals, made, pv, res, h2, h5, rfl, rfl⟩
    unfold wpY_choose
    dsimp only
    exact zd_gY (fun _ => R) (fun g1 => zd_gY (fun _ => R) (fun g2 => zd_gY (fun _ => R) (fun g3 => zd_gY (fun _ => R) (fun g4 => absurd ⟨g1, g2, g3, g4⟩ hn))))
  unfold wpX_choose
  dsimp only
  refine zd_gX (fun hn => bad fun z => hn z.1) (fun g1 => zd_gX (fun hn => bad fun z => hn z.2.1) (fun g2 => zd_gX (fun hn => bad fun z => hn z.2.2.1) (fun g3 => zd_gX (fun hn => bad fun z => hn z.2.2.2) (fun g4 => ?_))))
  obtain ⟨d, hd, rfl⟩ := g1
  obtain ⟨c, hc, rfl⟩ := g2
  obtain ⟨a, ha, rfl⟩ := g3
  obtain ⟨b, hb, rfl⟩ := g4
  refine zd_xchoose hd hc ha hb hm (fun made' => ?_)
  unfold wpY_choose
  dsimp only
  exact zd_gY (fun hn => absurd ⟨d, hd, rfl⟩ hn) (fun _ => zd_gY (fun hn => absurd ⟨c, hc, rfl⟩ hn) (fun _ => zd_gY (fun hn => absurd ⟨a, ha, rfl⟩ hn) (fun _ => zd_gY (fun hn => absurd ⟨b, hb, rfl⟩ hn) (fun _ => zd_ychoose hd hc ha hb hm (fun res' => ⟨rfl, V, pf, _, made', pv, res', h2, h5, rfl, rfl⟩)))))
theorem i_vc_fold {k : Nat} {u : SX} {v : SY} (I : i_Rel k u v) (hk : k + 5 ≤ 2561) (v1 : Int32) (v2 : Int32) (v3 : Int32) (v4 : Int32) : wpX_fold (fun r u' => wpY_fold (fun r' v' => r' = r ∧ i_Rel (k + 5) u' v') v v1 v2 v3 v4) u v1 v2 v3 v4 := by
  obtain ⟨V, pf, vals, made, pv, res, h2, h5, rfl, rfl⟩ := I
  have bad : ¬ (zd_in 8 v1 ∧ zd_in 7 v2 ∧ zd_in 8 v3 ∧ zd_in V v4) → wpY_fold (fun r' v' => r' = 0 ∧ i_Rel (k + 5) (nI V, nI (2 ^ V), pf, vals, made, pv) v') (nI V, nI (2 ^ V), vals, res) v1 v2 v3 v4 := by
    intro hn
    have R : (0 : Int32) = 0 ∧ i_Rel (k + 5) (nI V, nI (2 ^ V), pf, vals, made, pv) (nI V, nI (2 ^ V), vals, res) := ⟨rfl, V, pf, vals, made, pv, res, h2, h5, rfl, rfl⟩
    unfold wpY_fold
    dsimp only
    exact zd_gY (fun _ => R) (fun g1 => zd_gY (fun _ => R) (fun g3 => zd_gOY (fun _ => R) (fun g2 => zd_gVY h5 (fun _ => R) (fun g4 => absurd ⟨g1, g2, g3, g4⟩ hn))))
  unfold wpX_fold
  dsimp only
  refine zd_gX (fun hn => bad fun z => hn z.1) (fun g1 => zd_gOX (fun hn => bad fun z => hn z.2.1) (fun g2 => zd_gX (fun hn => bad fun z => hn z.2.2.1) (fun g3 => zd_gVX h5 (fun hn => bad fun z => hn z.2.2.2) (fun g4 => ?_))))
  obtain ⟨d, hd, rfl⟩ := g1
  obtain ⟨o, ho, rfl⟩ := g2
  obtain ⟨a, ha, rfl⟩ := g3
  obtain ⟨w, hw, rfl⟩ := g4
  refine nm_e (zd_xfold h5 hd ha ho hw (fun made' => ?_))
  unfold wpY_fold
  dsimp only
  exact zd_gY (fun hn => absurd ⟨d, hd, rfl⟩ hn) (fun _ => zd_gY (fun hn => absurd ⟨a, ha, rfl⟩ hn) (fun _ => zd_gOY (fun hn => absurd ⟨o, ho, rfl⟩ hn) (fun _ => zd_gVY h5 (fun hn => absurd ⟨w, hw, rfl⟩ hn) (fun _ => zd_yfold h5 hd ha ho hw (fun res' => ⟨rfl, V, pf, _, made', pv, res', h2, h5, rfl, rfl⟩)))))
theorem i_vc_substitute {k : Nat} {u : SX} {v : SY} (I : i_Rel k u v) (hk : k + 5 ≤ 2561) (v1 : Int32) (v2 : Int32) (v3 : Int32) (v4 : Int32) : wpX_substitute (fun r u' => wpY_substitute (fun r' v' => r' = r ∧ i_Rel (k + 5) u' v') v v1 v2 v3 v4) u v1 v2 v3 v4 := by
  obtain ⟨V, pf, vals, made, pv, res, h2, h5, rfl, rfl⟩ := I
  have bad : ¬ (zd_in 8 v1 ∧ zd_in 8 v2 ∧ zd_in V v3 ∧ zd_in 8 v4) → wpY_substitute (fun r' v' => r' = 0 ∧ i_Rel (k + 5) (nI V, nI (2 ^ V), pf, vals, made, pv) v') (nI V, nI (2 ^ V), vals, res) v1 v2 v3 v4 := by
    intro hn
    have R : (0 : Int32) = 0 ∧ i_Rel (k + 5) (nI V, nI (2 ^ V), pf, vals, made, pv) (nI V, nI (2 ^ V), vals, res) := ⟨rfl, V, pf, vals, made, pv, res, h2, h5, rfl, rfl⟩
    unfold wpY_substitute
    dsimp only
    exact zd_gY (fun _ => R) (fun g1 => zd_gY (fun _ => R) (fun g2 => zd_gY (fun _ => R) (fun g4 => zd_gVY h5 (fun _ => R) (fun g3 => absurd ⟨g1, g2, g3, g4⟩ hn))))
  unfold wpX_substitute
  dsimp only
  refine zd_gX (fun hn => bad fun z => hn z.1) (fun g1 => zd_gX (fun hn => bad fun z => hn z.2.1) (fun g2 => zd_gVX h5 (fun hn => bad fun z => hn z.2.2.1) (fun g3 => zd_gX (fun hn => bad fun z => hn z.2.2.2) (fun g4 => ?_))))
  obtain ⟨d, hd, rfl⟩ := g1
  obtain ⟨a, ha, rfl⟩ := g2
  obtain ⟨w, hw, rfl⟩ := g3
  obtain ⟨b, hb, rfl⟩ := g4
  refine nm_e (zd_xsubstitute h5 hd ha hb hw (fun made' => ?_))
  unfold wpY_substitute
  dsimp only
  exact zd_gY (fun hn => absurd ⟨d, hd, rfl⟩ hn) (fun _ => zd_gY (fun hn => absurd ⟨a, ha, rfl⟩ hn) (fun _ => zd_gY (fun hn => absurd ⟨b, hb, rfl⟩ hn) (fun _ => zd_gVY h5 (fun hn => absurd ⟨w, hw, rfl⟩ hn) (fun _ => zd_ysubstitute h5 hd ha hb hw (fun res' => ⟨rfl, V, pf, _, made', pv, res', h2, h5, rfl, rfl⟩)))))
theorem i_vc_exchange {k : Nat} {u : SX} {v : SY} (I : i_Rel k u v) (hk : k + 5 ≤ 2561) (v1 : Int32) (v2 : Int32) (v3 : Int32) (v4 : Int32) : wpX_exchange (fun r u' => wpY_exchange (fun r' v' => r' = r ∧ i_Rel (k + 5) u' v') v v1 v2 v3 v4) u v1 v2 v3 v4 := by
  obtain ⟨V, pf, vals, made, pv, res, h2, h5, rfl, rfl⟩ := I
  have bad : ¬ (zd_in 8 v1 ∧ zd_in 8 v2 ∧ zd_in V v3 ∧ zd_in V v4) → wpY_exchange (fun r' v' => r' = 0 ∧ i_Rel (k + 5) (nI V, nI (2 ^ V), pf, vals, made, pv) v') (nI V, nI (2 ^ V), vals, res) v1 v2 v3 v4 := by
    intro hn
    have R : (0 : Int32) = 0 ∧ i_Rel (k + 5) (nI V, nI (2 ^ V), pf, vals, made, pv) (nI V, nI (2 ^ V), vals, res) := ⟨rfl, V, pf, vals, made, pv, res, h2, h5, rfl, rfl⟩
    unfold wpY_exchange
    dsimp only
    exact zd_gY (fun _ => R) (fun g1 => zd_gY (fun _ => R) (fun g2 => zd_gVY h5 (fun _ => R) (fun g3 => zd_gVY h5 (fun _ => R) (fun g4 => absurd ⟨g1, g2, g3, g4⟩ hn))))
  unfold wpX_exchange
  dsimp only
  refine zd_gX (fun hn => bad fun z => hn z.1) (fun g1 => zd_gX (fun hn => bad fun z => hn z.2.1) (fun g2 => zd_gVX h5 (fun hn => bad fun z => hn z.2.2.1) (fun g3 => zd_gVX h5 (fun hn => bad fun z => hn z.2.2.2) (fun g4 => ?_))))
  obtain ⟨d, hd, rfl⟩ := g1
  obtain ⟨a, ha, rfl⟩ := g2
  obtain ⟨w, hw, rfl⟩ := g3
  obtain ⟨x, hx, rfl⟩ := g4
  refine zd_xexchange h5 hd ha hw hx (fun made' => ?_)
  unfold wpY_exchange
  dsimp only
  exact zd_gY (fun hn => absurd ⟨d, hd, rfl⟩ hn) (fun _ => zd_gY (fun hn => absurd ⟨a, ha, rfl⟩ hn) (fun _ => zd_gVY h5 (fun hn => absurd ⟨w, hw, rfl⟩ hn) (fun _ => zd_gVY h5 (fun hn => absurd ⟨x, hx, rfl⟩ hn) (fun _ => zd_yexchange h5 hd ha hw hx (fun res' => ⟨rfl, V, pf, _, made', pv, res', h2, h5, rfl, rfl⟩)))))
end
end
section
/-! the readers -/
section
variable {m f g V v : Nat} {fv pf c : Int32} {vals made pv res : Nat → Int32} {post : Int32 → Prop} {posl : Int64 → Prop}
def zd_ct (vals : Nat → Int32) (f : Nat) (c : Int32) : Nat → Int32
  | 0 => 0
  | i + 1 => if vals (32 * f + i) = c then zd_ct vals f c i + 1 else zd_ct vals f c i
theorem zd_xcount (hf : f < 8) (hm : m ≤ 32) (hp : post (zd_ct vals f c m)) : ∃ n, wX_countOf_14 post (nI f) c fv (nI m) pf vals made pv n 0 0 := by
  refine loop_0 (fun n i s => wX_countOf_14 post (nI f) c fv (nI m) pf vals made pv n s (nI i)) (fun i s => s = zd_ct vals f c i) m 0 rfl
    (fun n s hI => br_t (nI_le (Nat.le_refl m) (by omega)) (by subst hI; exact hp))
    (fun n i s hi hI K => br_f (nI_ge hi (by omega)) ⟨zd_v1 (by omega) (by omega), br_c (fun e y ey z ez => ?_) (fun e z ez => ?_)⟩)
  · rw [zd_c1 (by omega)] at e
    rw [ez, nI_1]
    refine K y ?_
    rw [ey, hI]
    exact (if_pos e).symm
  · rw [zd_c1 (by omega)] at e
    rw [ez, nI_1]
    refine K s ?_
    rw [hI]
    exact (if_neg e).symm
theorem zd_ycount (hf : f < 8) (hm : m ≤ 32) (hp : post (zd_ct vals f c m)) : ∃ n, wY_countOf_15 post (nI f) c fv (nI m) vals res n 0 0 := by
  refine loop_0 (fun n i s => wY_countOf_15 post (nI f) c fv (nI m) vals res n s (nI i)) (fun i s => s = zd_ct vals f c i) m 0 rfl
    (fun n s hI => br_t (nI_le (Nat.le_refl m) (by omega)) (by subst hI; exact hp))
    (fun n i s hi hI K => br_f (nI_ge hi (by omega)) ⟨zd_v2 (by omega) (by omega), br_c (fun e y ey z ez => ?_) (fun e z ez => ?_)⟩)
  · rw [zd_c2 (by omega)] at e
    rw [ez, nI_1]
    refine K y ?_
    rw [ey, hI]
    exact (if_pos e).symm
  · rw [zd_c2 (by omega)] at e
    rw [ez, nI_1]
    refine K s ?_
    rw [hI]
    exact (if_neg e).symm
theorem i_vc_countOf {k : Nat} {u : SX} {v : SY} (I : i_Rel k u v) (hk : k + 5 ≤ 2561) (v1 : Int32) (v2 : Int32) : wpX_countOf (fun r => wpY_countOf (fun r' => r' = r ∧ i_Rel (k + 5) u v) v v1 v2) u v1 v2 := by
  have J : i_Rel (k + 5) u v := I
  obtain ⟨V, pf, vals, made, pv, res, h2, h5, rfl, rfl⟩ := I
  have hm := zd_m V h5
  unfold wpX_countOf wpY_countOf
  dsimp only
  refine zd_gX (fun hn => zd_gY (fun _ => ⟨rfl, J⟩) (fun hg => absurd hg hn)) (fun hg => ?_)
  obtain ⟨f, hf, rfl⟩ := hg
  exact zd_xcount hf hm (zd_gY (fun hn => absurd ⟨f, hf, rfl⟩ hn) (fun _ => zd_ycount hf hm ⟨rfl, J⟩))
def zd_tt (vals : Nat → Int32) (f : Nat) : Nat → Int64
  | 0 => 0
  | i + 1 => zd_tt vals f i + (vals (32 * f + i)).toInt64
theorem zd_xtotal (hf : f < 8) (hm : m ≤ 32) (hp : posl (zd_tt vals f m)) : ∃ n, wX_total_14 posl (nI f) fv (nI m) pf vals made pv n 0 0 := by
  refine loop_0 (fun n i s => wX_total_14 posl (nI f) fv (nI m) pf vals made pv n s (nI i)) (fun i s => s = zd_tt vals f i) m 0 rfl
    (fun n s hI => br_t (nI_le (Nat.le_refl m) (by omega)) (by subst hI; exact hp))
    (fun n i s hi hI K => br_f (nI_ge hi (by omega)) ⟨zd_v1 (by omega) (by omega), fun y ey z ez => ?_⟩)
  rw [ez, nI_1]
  refine K y ?_
  rw [ey, hI, zd_c1 (by omega)]
  rfl
theorem zd_ytotal (hf : f < 8) (hm : m ≤ 32) (hp : posl (zd_tt vals f m)) : ∃ n, wY_total_15 posl (nI f) fv (nI m) vals res n 0 0 := by
  refine loop_0 (fun n i s => wY_total_15 posl (nI f) fv (nI m) vals res n s (nI i)) (fun i s => s = zd_tt vals f i) m 0 rfl
    (fun n s hI => br_t (nI_le (Nat.le_refl m) (by omega)) (by subst hI; exact hp))
    (fun n i s hi hI K => br_f (nI_ge hi (by omega)) ⟨zd_v2 (by omega) (by omega), fun y ey z ez => ?_⟩)
  rw [ez, nI_1]
  refine K y ?_
  rw [ey, hI, zd_c2 (by omega)]
  rfl
theorem i_vc_total {k : Nat} {u : SX} {v : SY} (I : i_Rel k u v) (hk : k + 5 ≤ 2561) (v1 : Int32) : wpX_total (fun r => wpY_total (fun r' => r' = r ∧ i_Rel (k + 5) u v) v v1) u v1 := by
  have J : i_Rel (k + 5) u v := I
  obtain ⟨V, pf, vals, made, pv, res, h2, h5, rfl, rfl⟩ := I
  have hm := zd_m V h5
  unfold wpX_total wpY_total
  dsimp only
  refine zd_gX (fun hn => zd_gY (fun _ => ⟨rfl, J⟩) (fun hg => absurd hg hn)) (fun hg => ?_)
  obtain ⟨f, hf, rfl⟩ := hg
  exact zd_xtotal hf hm (zd_gY (fun hn => absurd ⟨f, hf, rfl⟩ hn) (fun _ => zd_ytotal hf hm ⟨rfl, J⟩))
theorem i_vc_valueAt {k : Nat} {u : SX} {v : SY} (I : i_Rel k u v) (hk : k + 5 ≤ 2561) (v1 : Int32) (v2 : Int32) : wpX_valueAt (fun r => wpY_valueAt (fun r' => r' = r ∧ i_Rel (k + 5) u v) v v1 v2) u v1 v2 := by
  have J : i_Rel (k + 5) u v := I
  obtain ⟨V, pf, vals, made, pv, res, h2, h5, rfl, rfl⟩ := I
  have hm := zd_m V h5
  unfold wpX_valueAt wpY_valueAt
  dsimp only
  refine zd_gX (fun hn => zd_gY (fun _ => ⟨rfl, J⟩) (fun hg => absurd hg hn)) (fun hg => ?_)
  obtain ⟨f, hf, rfl⟩ := hg
  have Y : ∀ {A B : Prop}, B → wpY_isPlace (fun r => (r = 0 → A) ∧ (¬ r = 0 → B)) (nI V, nI (2 ^ V), vals, res) (nI f) := fun h => zd_gY (fun hn => absurd ⟨f, hf, rfl⟩ hn) (fun _ => h)
  refine br_c (fun h => Y (br_t h ⟨rfl, J⟩)) (fun h => ?_)
  refine br_c (fun h1 => ?_) (fun h1 => Y (br_f h (br_f h1 ⟨rfl, J⟩)))
  obtain ⟨x, hx, rfl⟩ := nI_of h
  have hx' : x < 2 ^ V := (nI_ltI hx (by omega)).mp h1
  refine ⟨zd_v1 (by omega) (by omega), Y (br_f h (br_t h1 ⟨zd_v2 (by omega) (by omega), ?_, J⟩))⟩
  rw [zd_c1 (by omega), zd_c2 (by omega)]
/-! all equal below m -/
theorem zd_xsame (hf : f < 8) (hg : g < 8) (hm : m ≤ 32) (h1 : (∀ x, x < m → vals (32 * f + x) = vals (32 * g + x)) → post 1) (h0 : ¬ (∀ x, x < m → vals (32 * f + x) = vals (32 * g + x)) → post 0) : ∃ n, wX_same_18 post (nI f) (nI g) fv (nI m) pf vals made pv n 0 := by
  refine loop_0 (fun n i (_ : Unit) => wX_same_18 post (nI f) (nI g) fv (nI m) pf vals made pv n (nI i)) (fun i _ => ∀ x, x < i → vals (32 * f + x) = vals (32 * g + x)) m () lt_0
    (fun n s hI => br_t (nI_le (Nat.le_refl m) (by omega)) (h1 hI))
    (fun n i s hi hI K => br_f (nI_ge hi (by omega)) ⟨zd_v1 (by omega) (by omega), zd_v1 (by omega) (by omega), br_c (fun e z ez => ?_) (fun e => h0 fun z => ?_)⟩)
  · rw [zd_c1 (by omega), zd_c1 (by omega)] at e
    rw [ez, nI_1]
    exact K () (lt_s hI e)
  · rw [zd_c1 (by omega), zd_c1 (by omega)] at e
    exact e (z i hi)
theorem zd_ysame (hf : f < 8) (hg : g < 8) (hm : m ≤ 32) (h1 : (∀ x, x < m → vals (32 * f + x) = vals (32 * g + x)) → post 1) (h0 : ¬ (∀ x, x < m → vals (32 * f + x) = vals (32 * g + x)) → post 0) : ∃ n, wY_same_20 post (nI f) (nI g) fv (nI m) vals res n 0 := by
  refine loop_0 (fun n i (_ : Unit) => wY_same_20 post (nI f) (nI g) fv (nI m) vals res n (nI i)) (fun i _ => ∀ x, x < i → vals (32 * f + x) = vals (32 * g + x)) m () lt_0
    (fun n s hI => br_t (nI_le (Nat.le_refl m) (by omega)) (h1 hI))
    (fun n i s hi hI K => br_f (nI_ge hi (by omega)) ⟨zd_v2 (by omega) (by omega), zd_v2 (by omega) (by omega), br_c (fun e z ez => ?_) (fun e => h0 fun z => ?_)⟩)
  · rw [zd_c2 (by omega), zd_c2 (by omega)] at e
    rw [ez, nI_1]
    exact K () (lt_s hI e)
  · rw [zd_c2 (by omega), zd_c2 (by omega)] at e
    exact e (z i hi)
theorem i_vc_same {k : Nat} {u : SX} {v : SY} (I : i_Rel k u v) (hk : k + 5 ≤ 2561) (v1 : Int32) (v2 : Int32) : wpX_same (fun r => wpY_same (fun r' => r' = r ∧ i_Rel (k + 5) u v) v v1 v2) u v1 v2 := by
  have J : i_Rel (k + 5) u v := I
  obtain ⟨V, pf, vals, made, pv, res, h2, h5, rfl, rfl⟩ := I
  have hm := zd_m V h5
  unfold wpX_same wpY_same
  dsimp only
  refine zd_gX (fun hn => zd_gY (fun _ => ⟨rfl, J⟩) (fun hg => absurd hg hn)) (fun g1 => zd_gX (fun hn => zd_gY (fun _ => ⟨rfl, J⟩) (fun _ => zd_gY (fun _ => ⟨rfl, J⟩) (fun hg => absurd hg hn))) (fun g2 => ?_))
  obtain ⟨f, hf, rfl⟩ := g1
  obtain ⟨g, hg, rfl⟩ := g2
  refine zd_xsame hf hg hm (fun h => ?_) (fun h => ?_)
  · exact zd_gY (fun hn => absurd ⟨f, hf, rfl⟩ hn) (fun _ => zd_gY (fun hn => absurd ⟨g, hg, rfl⟩ hn) (fun _ => zd_ysame hf hg hm (fun _ => ⟨rfl, J⟩) (fun z => absurd h z)))
  · exact zd_gY (fun hn => absurd ⟨f, hf, rfl⟩ hn) (fun _ => zd_gY (fun hn => absurd ⟨g, hg, rfl⟩ hn) (fun _ => zd_ysame hf hg hm (fun z => absurd z h) (fun _ => ⟨rfl, J⟩)))
/-! support -/
def zd_ne (vals : Nat → Int32) (f v : Nat) : Nat → Bool
  | 0 => false
  | i + 1 => zd_ne vals f v i || !decide (vals (32 * f + i) = vals (32 * f + zd_fl i v))
def zd_su (vals : Nat → Int32) (f m : Nat) : Nat → Int32
  | 0 => 0
  | v + 1 => if zd_ne vals f v m = true then zd_su vals f m v ||| ((1 : Int32) <<< (nI v &&& 31)) else zd_su vals f m v
theorem zd_ne_up {v i : Nat} (h : zd_ne vals f v i = true) : ∀ j, zd_ne vals f v (i + j) = true := by
  intro j
  induction j with
  | zero => exact h
  | succ j ih =>
    show (zd_ne vals f v (i + j) || _) = true
    rw [ih]
    rfl
theorem zd_xdep (hV : V < 6) (hf : f < 8) (hv : v < V) (h1 : zd_ne vals f v (2 ^ V) = true → post 1) (h0 : zd_ne vals f v (2 ^ V) = false → post 0) : wpX_dependsOn post (fv, nI (2 ^ V), pf, vals, made, pv) (nI f) (nI v) := by
  have hm := zd_m V hV
  have T := zd_tfl V hV
  generalize 2 ^ V = m at *
  refine loop_0 (fun n i (_ : Unit) => wX_dependsOn_2 post (nI f) (nI v) fv (nI m) pf vals made pv n (nI i)) (fun i _ => zd_ne vals f v i = false) m () rfl
    (fun n s hI => br_t (nI_le (Nat.le_refl m) (by omega)) (h0 hI))
    (fun n i s hi hI K => br_f (nI_ge hi (by omega)) ?_)
  obtain ⟨e1, b1⟩ := T i hi v hv
  rw [e1]
  refine ⟨zd_v1 (by omega) (by omega), zd_v1 (by omega) (by omega), br_c (fun e z ez => ?_) (fun e => h1 ?_)⟩
  · rw [zd_c1 (by omega), zd_c1 (by omega)] at e
    rw [ez, nI_1]
    refine K () ?_
    show (zd_ne vals f v i || _) = false
    rw [hI, decide_eq_true e]
    rfl
  · rw [zd_c1 (by omega), zd_c1 (by omega)] at e
    have h : zd_ne vals f v (i + 1) = true := by
      show (zd_ne vals f v i || _) = true
      rw [decide_eq_false e, Bool.not_false, Bool.or_true]
    have := zd_ne_up h (m - (i + 1))
    rwa [show i + 1 + (m - (i + 1)) = m from by omega] at this
theorem zd_xsupport (hV : V < 6) (hf : f < 8) (hp : post (zd_su vals f (2 ^ V) V)) : ∃ n, wX_support_13 post (nI f) (nI V) (nI (2 ^ V)) pf vals made pv n 0 0 := by
  refine loop_0 (fun n i s => wX_support_13 post (nI f) (nI V) (nI (2 ^ V)) pf vals made pv n s (nI i)) (fun i s => s = zd_su vals f (2 ^ V) i) V 0 rfl
    (fun n s hI => br_t (nI_le (Nat.le_refl V) (by omega)) (by subst hI; exact hp))
    (fun n i s hi hI K => br_f (nI_ge hi (by omega)) (zd_xdep hV hf hi (fun h => zd_1 fun y ey z ez => ?_) (fun h => zd_0 fun z ez => ?_)))
  · rw [ez, nI_1]
    refine K y ?_
    rw [ey, hI]
    exact (if_pos h).symm
  · rw [ez, nI_1]
    refine K s ?_
    rw [hI]
    refine (if_neg ?_).symm
    rw [h]
    decide
theorem zd_or2 (a b : Int32) : (a ||| b) ||| b = a ||| b := by
  rw [Int32.or_assoc, Int32.or_self]
theorem zd_ysup1 (hV : V < 6) (hf : f < 8) (hv : v < V) {s0 : Int32} {J : Int32 → Int32 → Prop} (hp : J (if zd_ne vals f v (2 ^ V) = true then s0 ||| ((1 : Int32) <<< (nI v &&& 31)) else s0) (nI (v + 1))) : ∃ n, wY_support_25 post J (nI f) (nI v) fv (nI (2 ^ V)) vals res n s0 0 := by
  have hm := zd_m V hV
  have T := zd_tfl V hV
  generalize 2 ^ V = m at *
  refine loop_0 (fun n i s => wY_support_25 post J (nI f) (nI v) fv (nI m) vals res n s (nI i)) (fun i s => s = if zd_ne vals f v i = true then s0 ||| ((1 : Int32) <<< (nI v &&& 31)) else s0) m s0 (if_neg (show ¬ (false = true) from by decide)).symm
    (fun n s hI => br_t (nI_le (Nat.le_refl m) (by omega)) (nm_r (nI_1 v) (by subst hI; exact hp)))
    (fun n i s hi hI K => br_f (nI_ge hi (by omega)) ?_)
  obtain ⟨e1, b1⟩ := T i hi v hv
  rw [e1]
  refine ⟨zd_v2 (by omega) (by omega), zd_v2 (by omega) (by omega), br_c (fun e z ez => ?_) (fun e y ey z ez => ?_)⟩
  · rw [zd_c2 (by omega), zd_c2 (by omega)] at e
    rw [ez, nI_1]
    refine K s ?_
    rw [hI]
    have h : zd_ne vals f v (i + 1) = zd_ne vals f v i := by
      show (zd_ne vals f v i || _) = _
      rw [decide_eq_true e, Bool.not_true, Bool.or_false]
    rw [h]
  · rw [zd_c2 (by omega), zd_c2 (by omega)] at e
    rw [ez, nI_1]
    refine K y ?_
    have h : zd_ne vals f v (i + 1) = true := by
      show (zd_ne vals f v i || _) = true
      rw [decide_eq_false e, Bool.not_false, Bool.or_true]
    rw [ey, hI, if_pos h]
    by_cases z : zd_ne vals f v i = true
    · rw [if_pos z, zd_or2]
    · rw [if_neg z]
theorem zd_ysupport (hV : V < 6) (hf : f < 8) (hp : post (zd_su vals f (2 ^ V) V)) : ∃ n, wY_support_14 post (nI f) (nI V) (nI (2 ^ V)) vals res n 0 0 := by
  refine loop_0 (fun n i s => wY_support_14 post (nI f) (nI V) (nI (2 ^ V)) vals res n s (nI i)) (fun i s => s = zd_su vals f (2 ^ V) i) V 0 rfl
    (fun n s hI => br_t (nI_le (Nat.le_refl V) (by omega)) (by subst hI; exact hp))
    (fun n i s hi hI K => br_f (nI_ge hi (by omega)) (zd_ysup1 hV hf hi (K _ ?_)))
  rw [hI]
  rfl
theorem i_vc_support {k : Nat} {u : SX} {v : SY} (I : i_Rel k u v) (hk : k + 5 ≤ 2561) (v1 : Int32) : wpX_support (fun r => wpY_support (fun r' => r' = r ∧ i_Rel (k + 5) u v) v v1) u v1 := by
  have J : i_Rel (k + 5) u v := I
  obtain ⟨V, pf, vals, made, pv, res, h2, h5, rfl, rfl⟩ := I
  unfold wpX_support wpY_support
  dsimp only
  refine zd_gX (fun hn => zd_gY (fun _ => ⟨rfl, J⟩) (fun hg => absurd hg hn)) (fun hg => ?_)
  obtain ⟨f, hf, rfl⟩ := hg
  exact zd_xsupport h5 hf (zd_gY (fun hn => absurd ⟨f, hf, rfl⟩ hn) (fun _ => zd_ysupport h5 hf ⟨rfl, J⟩))
end
end
section
/-! the names of parts, on the reference's side -/
section
def zd_lk (q : Nat) : Nat → Nat
  | 0 => 0
  | i + 1 => if q / 2 ^ (i + 1) = 0 then zd_lk q i else i + 1
def zd_lg (q : Nat) : Nat := zd_lk q 5
def zd_pi (q x : Nat) : Nat := x / 2 ^ zd_lg q * 2 ^ zd_lg q + q % 2 ^ zd_lg q
def zd_P (vals : Nat → Int32) (N x : Nat) : Int32 := vals (32 * (N / 64) + zd_pi (N % 64) x)
def zd_ok (m N : Nat) : Prop := 1 ≤ N % 64 ∧ N % 64 < 2 * m
def zd_eq (vals : Nat → Int32) (m A B : Nat) : Prop := ∀ x, x < m → zd_P vals A x = zd_P vals B x
def zd_new (vals : Nat → Int32) (m F N : Nat) : Prop := ∀ A, F ≤ A → A < N → zd_ok m A → ¬ zd_eq vals m A N
noncomputable def zd_cn (vals : Nat → Int32) (m F : Nat) : Nat → Nat
  | 0 => 0
  | i + 1 => zd_cn vals m F i + @ite Nat (zd_ok m (F + i) ∧ zd_new vals m F (F + i)) (Classical.propDecidable _) 1 0
theorem zd_cn1 {vals : Nat → Int32} {m F i : Nat} (h : zd_ok m (F + i)) (h' : zd_new vals m F (F + i)) : zd_cn vals m F (i + 1) = zd_cn vals m F i + 1 := congrArg (zd_cn vals m F i + ·) (if_pos ⟨h, h'⟩)
theorem zd_cn0 {vals : Nat → Int32} {m F i : Nat} (h : ¬ (zd_ok m (F + i) ∧ zd_new vals m F (F + i))) : zd_cn vals m F (i + 1) = zd_cn vals m F i := congrArg (zd_cn vals m F i + ·) (if_neg h)
theorem zd_cnb (vals : Nat → Int32) (m F : Nat) (hF : F % 64 = 0) (i : Nat) : zd_cn vals m F i + (i + 63) / 64 ≤ i := by
  induction i with
  | zero => exact Nat.le_refl 0
  | succ i ih =>
    by_cases h : zd_ok m (F + i) ∧ zd_new vals m F (F + i)
    · rw [zd_cn1 h.1 h.2]
      have := h.1.1
      omega
    · rw [zd_cn0 h]
      omega
/-! tables -/
theorem zd_t63 : ∀ N, N < 512 → nI N &&& 63 = nI (N % 64) := by decide +kernel
theorem zd_tsr : ∀ q, q < 64 → ∀ j, j < 6 → nI q >>> (nI j &&& 31) = nI (q / 2 ^ j) := by decide +kernel
theorem zd_t6 : ∀ N, N < 512 → nI N >>> ((6 : Int32) &&& 31) = nI (N / 64) := by decide +kernel
theorem zd_tlo : ∀ k, k < 6 → ∀ N, N < 512 → nI N &&& (((1 : Int32) <<< (nI k &&& 31)) - 1) = nI (N % 64 % 2 ^ k) := by decide +kernel
theorem zd_thi : ∀ k, k < 6 → ∀ x, x < 32 → nI x &&& ((((1 : Int32) <<< (nI k &&& 31)) - 1) ^^^ (-1)) = nI (x / 2 ^ k * 2 ^ k) := by decide +kernel
theorem zd_tke : ∀ k, k < 6 → ∀ x, x < 32 → nI x &&& ((-1 : Int32) <<< (nI k &&& 31)) = nI (x / 2 ^ k * 2 ^ k) := by decide +kernel
theorem zd_tor : ∀ k, k < 6 → ∀ x, x < 32 → ∀ r, r < 2 ^ k → nI (x / 2 ^ k * 2 ^ k) ||| nI r = nI (x / 2 ^ k * 2 ^ k + r) := by decide +kernel
theorem zd_tlg : ∀ q, q < 64 → zd_lg q < 6 := by decide +kernel
theorem zd_tkr : ∀ k, k < 6 → ∀ r, r < 2 ^ k → zd_lg (2 ^ k + r) = k ∧ (2 ^ k + r) % 2 ^ k = r ∧ 2 ^ k + r < 64 := by decide +kernel
theorem zd_tpi : ∀ V, V < 6 → ∀ q, q < 2 * 2 ^ V → ∀ x, x < 2 ^ V → q = 0 ∨ zd_pi q x < 2 ^ V := by decide +kernel
theorem zd_txk : ∀ V, V < 6 → ∀ k, k < V + 1 → ∀ r, r < 2 ^ k → ∀ x, x < 2 ^ V → x / 2 ^ k * 2 ^ k + r < 2 ^ V := by decide +kernel
/-! the walks -/
variable {V m F L N A B x : Nat} {fv : Int32} {vals res : Nat → Int32} {post : Int32 → Prop}
theorem zd_isname {P Q : Prop} (hm : m ≤ 32) (hN : N < 512) (hA : ¬ zd_ok m N → P) (hB : zd_ok m N → Q) : wpY_isName (fun r => (r = 0 → P) ∧ (¬ r = 0 → Q)) (fv, nI m, vals, res) (nI N) := by
  have e : (2 : Int32) * nI m = nI (2 * m) := pk_mul 2 m
  have h1 : nI (N % 64) < (1 : Int32) ↔ N % 64 < 1 := nI_ltI (b := 1) (by omega) (by decide)
  have h2 : nI (2 * m) ≤ nI (N % 64) ↔ 2 * m ≤ N % 64 := nI_leI (by omega) (by omega)
  unfold wpY_isName
  dsimp only
  rw [zd_t63 N hN, e, h1, h2]
  refine br_c (fun h => zd_0 (hA fun z => ?_)) (fun h => br_c (fun h' => zd_0 (hA fun z => ?_)) (fun h' => zd_1 (hB ?_)))
  · have := z.1
    omega
  · have := z.2
    omega
  · exact ⟨by omega, by omega⟩
theorem zd_fc (hN : N < 512) (hp : post (nI (zd_lg (N % 64)))) : wpY_fixedCount post (fv, nI m, vals, res) (nI N) := by
  refine loop_0 (fun n j s => wY_fixedCount_4 post (nI N) fv (nI m) vals res n s (nI (j + 1))) (fun j s => s = nI (zd_lk (N % 64) j)) 5 0 rfl
    (fun n s hI => br_t (by decide) (by subst hI; exact hp))
    (fun n j s hj hI K => br_f (nI_nlt (b := j + 1) (a := 5) (by omega) (by decide)) ?_)
  rw [zd_t63 N hN, zd_tsr (N % 64) (by omega) (j + 1) (by omega)]
  have h0 : nI (N % 64 / 2 ^ (j + 1)) = 0 ↔ N % 64 / 2 ^ (j + 1) = 0 := nI_eq (b := 0) (by have := Nat.div_le_self (N % 64) (2 ^ (j + 1)); omega) (by decide)
  rw [h0]
  refine br_c (fun e z ez => ?_) (fun e z ez => ?_)
  · rw [ez, nI_1]
    refine K s ?_
    rw [hI]
    exact congrArg nI (if_pos e).symm
  · rw [ez, nI_1]
    refine K _ ?_
    exact congrArg nI (if_neg e).symm
theorem zd_pb (hV : V < 6) (ho : zd_ok (2 ^ V) N) (hx : x < 2 ^ V) : zd_pi (N % 64) x < 2 ^ V :=
  (zd_tpi V hV (N % 64) ho.2 x hx).resolve_left (by have := ho.1; omega)
theorem zd_pat (hV : V < 6) (hN : N < 512) (ho : zd_ok (2 ^ V) N) (hx : x < 2 ^ V) (hp : post (zd_P vals N x)) : wpY_partAt post (fv, nI (2 ^ V), vals, res) (nI N) (((1 : Int32) <<< (nI (zd_lg (N % 64)) &&& 31)) - 1) (nI x) := by
  have hm := zd_m V hV
  have hb := zd_pb hV ho hx
  have hk := zd_tlg (N % 64) (by omega)
  have e : (nI x &&& ((((1 : Int32) <<< (nI (zd_lg (N % 64)) &&& 31)) - 1) ^^^ (-1))) ||| (nI N &&& (((1 : Int32) <<< (nI (zd_lg (N % 64)) &&& 31)) - 1)) = nI (zd_pi (N % 64) x) := by
    rw [zd_thi _ hk x (by omega), zd_tlo _ hk N hN, zd_tor _ hk x (by omega) _ (Nat.mod_lt _ (Nat.two_pow_pos _))]
    rfl
  unfold wpY_partAt
  dsimp only
  rw [e, zd_t6 N hN, zd_c2 (by omega)]
  exact ⟨zd_v2 (by omega) (by omega), hp⟩
theorem zd_same (hV : V < 6) (hA : A < 512) (hB : B < 512) (oA : zd_ok (2 ^ V) A) (oB : zd_ok (2 ^ V) B) (h1 : zd_eq vals (2 ^ V) A B → post 1) (h0 : ¬ zd_eq vals (2 ^ V) A B → post 0) : wpY_samePart post (fv, nI (2 ^ V), vals, res) (nI A) (nI B) := by
  have hm := zd_m V hV
  unfold wpY_samePart
  dsimp only
  refine zd_fc hA (zd_fc hB ?_)
  exact loop_0 (fun n i (_ : Unit) => wY_samePart_16 post (nI A) (nI B) (nI (zd_lg (A % 64))) (nI (zd_lg (B % 64))) fv (nI (2 ^ V)) vals res n (nI i)) (fun i _ => ∀ x, x < i → zd_P vals A x = zd_P vals B x) (2 ^ V) () lt_0
    (fun n s hI => br_t (nI_le (Nat.le_refl _) (by omega)) (h1 hI))
    (fun n i s hi hI K => br_f (nI_ge hi (by omega)) (zd_pat hV hA oA hi (zd_pat hV hB oB hi (br_c (fun e => nm_r (nI_1 i) (K () (lt_s hI e))) (fun e => h0 fun z => e (z i hi))))))
theorem zd_isnew (hV : V < 6) (hN : N < 512) (hF : F ≤ N) (oN : zd_ok (2 ^ V) N) (h1 : zd_new vals (2 ^ V) F N → post 1) (h0 : ¬ zd_new vals (2 ^ V) F N → post 0) : wpY_isNew post (fv, nI (2 ^ V), vals, res) (nI F) (nI N) := by
  have hm := zd_m V hV
  refine pk_loop (fun n i (_ : Unit) => wY_isNew_2 post (nI N) fv (nI (2 ^ V)) vals res n (nI i)) (fun i _ => F ≤ i ∧ ∀ A, F ≤ A → A < i → zd_ok (2 ^ V) A → ¬ zd_eq vals (2 ^ V) A N) N F () hF ⟨Nat.le_refl F, fun A a b => absurd b (by omega)⟩
    (fun n s hI => br_t (nI_le (Nat.le_refl _) (by omega)) (h1 hI.2))
    (fun n i s hi hI K => br_f (nI_ge hi (by omega)) (zd_isname hm (by omega) (fun ho => nm_r (nI_1 i) (K () ⟨by have := hI.1; omega, fun A a b o => ?_⟩)) (fun ho => zd_same hV (by omega) hN ho oN (fun he => zd_1 (h0 fun z => z i hI.1 hi ho he)) (fun he => zd_0 (nm_r (nI_1 i) (K () ⟨by have := hI.1; omega, fun A a b o => ?_⟩))))))
  · by_cases h : A = i
    · subst h
      exact absurd o ho
    · exact hI.2 A a (by omega) o
  · by_cases h : A = i
    · subst h
      exact he
    · exact hI.2 A a (by omega) o
theorem zd_diff (hV : V < 6) (hL : F + L ≤ 512) (hp : post (nI (zd_cn vals (2 ^ V) F L))) : wpY_differentParts post (fv, nI (2 ^ V), vals, res) (nI F) (nI (F + L)) := by
  have hm := zd_m V hV
  refine loop_0 (fun n i s => wY_differentParts_5 post (nI F) (nI (F + L)) fv (nI (2 ^ V)) vals res n s (nI (F + i))) (fun i s => s = nI (zd_cn vals (2 ^ V) F i)) L 0 rfl
    (fun n s hI => br_t (nI_le (Nat.le_refl _) (by omega)) (by subst hI; exact hp))
    (fun n i s hi hI K => br_f (nI_ge (by omega) (by omega)) (zd_isname hm (by omega) (fun ho => nm_r (nI_1 (F + i)) (K s ?_)) (fun ho => zd_isnew hV (by omega) (by omega) ho (fun hn => zd_1 fun y ey => nm_r (nI_1 (F + i)) (K y ?_)) (fun hn => zd_0 (nm_r (nI_1 (F + i)) (K s ?_))))))
  · rw [hI, zd_cn0 fun z => ho z.1]
  · rw [ey, hI, nI_1, zd_cn1 ho hn]
  · rw [hI, zd_cn0 fun z => hn z.2]
end
end
section
/-! the component's list of different parts -/
section
variable {V m F L N A B x i c f k r b : Nat} {fv pf : Int32} {vals made res pv pw : Nat → Int32} {posr : Int32 → Prop} {post : SX → Prop}
/-- after the names F .. F + i - 1: c rows stand, each is one of their parts, and each of their parts is among them -/
def zd_GI (vals : Nat → Int32) (m F i c : Nat) (pv : Nat → Int32) : Prop :=
  c = zd_cn vals m F i ∧ (∀ r, r < c → ∃ A, F ≤ A ∧ A < F + i ∧ zd_ok m A ∧ ∀ x, x < m → pv (32 * r + x) = zd_P vals A x) ∧
    (∀ A, F ≤ A → A < F + i → zd_ok m A → ∃ r, r < c ∧ ∀ x, x < m → pv (32 * r + x) = zd_P vals A x)
theorem zd_gi0 : zd_GI vals m F 0 0 pv := ⟨rfl, fun r h => absurd h (by omega), fun A a h => absurd h (by omega)⟩
theorem zd_gis (h : zd_GI vals m F i c pv) (ho : ¬ zd_ok m (F + i)) : zd_GI vals m F (i + 1) c pv := by
  obtain ⟨h1, h2, h3⟩ := h
  refine ⟨by rw [zd_cn0 fun z => ho z.1]; exact h1, fun r hr => ?_, fun A a l o => ?_⟩
  · obtain ⟨A, a, l, o, e⟩ := h2 r hr
    exact ⟨A, a, by omega, o, e⟩
  · by_cases hA : A = F + i
    · subst hA
      exact absurd o ho
    · exact h3 A a (by omega) o
theorem zd_gap (h : zd_GI vals m F i c pv) : ∀ j, (∀ t, t < j → ¬ zd_ok m (F + (i + t))) → zd_GI vals m F (i + j) c pv := by
  intro j
  induction j with
  | zero => exact fun _ => h
  | succ j ih => exact fun ho => zd_gis (ih fun t ht => ho t (by omega)) (ho j (by omega))
/-- the candidate's row stands behind the others; it is new there just when its name is new -/
theorem zd_giw (h : zd_GI vals m F i c pv) (hm : m ≤ 32) (ho : zd_ok m (F + i)) :
    ((∀ r, r < c → ¬ ∀ x, x < m → zd_cp pv c m (zd_P vals (F + i)) (32 * r + x) = zd_cp pv c m (zd_P vals (F + i)) (32 * c + x)) → zd_GI vals m F (i + 1) (c + 1) (zd_cp pv c m (zd_P vals (F + i)))) ∧
    ((¬ ∀ r, r < c → ¬ ∀ x, x < m → zd_cp pv c m (zd_P vals (F + i)) (32 * r + x) = zd_cp pv c m (zd_P vals (F + i)) (32 * c + x)) → zd_GI vals m F (i + 1) c (zd_cp pv c m (zd_P vals (F + i)))) := by
  have k1 : ∀ r, r < c → ∀ x, x < m → zd_cp pv c m (zd_P vals (F + i)) (32 * r + x) = pv (32 * r + x) := fun r hr x hx => zd_cpo pv c m _ (by omega) (by omega) hm
  have k2 : ∀ x, x < m → zd_cp pv c m (zd_P vals (F + i)) (32 * c + x) = zd_P vals (F + i) x := fun x hx => zd_cpi pv c m _ hx
  generalize zd_cp pv c m (zd_P vals (F + i)) = pw at k1 k2 ⊢
  obtain ⟨h1, h2, h3⟩ := h
  constructor
  · intro hn
    have hnew : zd_new vals m F (F + i) := by
      intro A a l o he
      obtain ⟨r, hr, e⟩ := h3 A a l o
      exact hn r hr fun x hx => by rw [k1 r hr x hx, k2 x hx, e x hx]; exact he x hx
    refine ⟨by rw [zd_cn1 ho hnew, h1], fun r hr => ?_, fun A a l o => ?_⟩
    · by_cases hc : r = c
      · subst hc
        exact ⟨F + i, by omega, by omega, ho, k2⟩
      · obtain ⟨A, a, l, o, e⟩ := h2 r (by omega)
        exact ⟨A, a, by omega, o, fun x hx => (k1 r (by omega) x hx).trans (e x hx)⟩
    · by_cases hA : A = F + i
      · subst hA
        exact ⟨c, by omega, k2⟩
      · obtain ⟨r, hr, e⟩ := h3 A a (by omega) o
        exact ⟨r, by omega, fun x hx => (k1 r hr x hx).trans (e x hx)⟩
  · intro hn
    have hx : ∃ r, r < c ∧ ∀ x, x < m → pw (32 * r + x) = pw (32 * c + x) := Classical.byContradiction fun z => hn fun r hr e => z ⟨r, hr, e⟩
    obtain ⟨r0, hr0, e0⟩ := hx
    have hold : ¬ zd_new vals m F (F + i) := by
      intro z
      obtain ⟨A, a, l, o, e⟩ := h2 r0 hr0
      exact z A a l o fun x hx => by rw [← e x hx, ← k1 r0 hr0 x hx, e0 x hx, k2 x hx]
    refine ⟨by rw [zd_cn0 fun z => hold z.2]; exact h1, fun r hr => ?_, fun A a l o => ?_⟩
    · obtain ⟨A, a, l, o, e⟩ := h2 r hr
      exact ⟨A, a, by omega, o, fun x hx => (k1 r hr x hx).trans (e x hx)⟩
    · by_cases hA : A = F + i
      · subst hA
        exact ⟨r0, hr0, fun x hx => (e0 x hx).trans (k2 x hx)⟩
      · obtain ⟨r, hr, e⟩ := h3 A a (by omega) o
        exact ⟨r, hr, fun x hx => (k1 r hr x hx).trans (e x hx)⟩
/-! the walks -/
theorem zd_wcand (hV : V < 6) (hf : f < 8) (hk : k < V + 1) (hr : r < 2 ^ k) (hc : c < 504) (hp : post (fv, nI (2 ^ V), nI c, vals, made, zd_cp pv c (2 ^ V) (zd_P vals (64 * f + (2 ^ k + r))))) : wpX_writeCandidate post (fv, nI (2 ^ V), nI c, vals, made, pv) (nI f) (nI k) (nI r) := by
  have hm := zd_m V hV
  obtain ⟨t1, t2, t3⟩ := zd_tkr k (by omega) r hr
  have e1 : (64 * f + (2 ^ k + r)) / 64 = f := by omega
  have e2 : (64 * f + (2 ^ k + r)) % 64 = 2 ^ k + r := by omega
  have P : ∀ x, zd_P vals (64 * f + (2 ^ k + r)) x = vals (32 * f + (x / 2 ^ k * 2 ^ k + r)) := by
    intro x
    unfold zd_P zd_pi
    rw [e1, e2, t1, t2]
  generalize zd_P vals (64 * f + (2 ^ k + r)) = g at hp P
  refine nm_e ?_
  refine loop_0 (fun n i s => wX_writeCandidate_8 post (nI f) (nI r) ((-1 : Int32) <<< (nI k &&& 31)) fv (nI (2 ^ V)) (nI c) n (nI i) vals made s) (fun i s => s = zd_cp pv c i g) (2 ^ V) pv (zd_cp0 _ _ _).symm
    (fun n s hI => br_t (nI_le (Nat.le_refl _) (by omega)) (by subst hI; exact hp))
    (fun n i s hi hI K => br_f (nI_ge hi (by omega)) ?_)
  have hb := zd_txk V hV k hk r hr i hi
  rw [zd_tke k (by omega) i (by omega), zd_tor k (by omega) i (by omega) r hr]
  refine ⟨zd_v1 (by omega) (by omega), zd_v1 (by omega) (by omega), fun a ea y ey => ?_⟩
  rw [ea, ey, nI_1, zd_c1 (by omega), zd_c1 (by omega), ← P i, hI, zd_cps]
  exact K _ rfl
theorem zd_rows (hm : m ≤ 32) (hA : A < 504) (hB : B < 504) (h1 : (∀ x, x < m → pv (32 * A + x) = pv (32 * B + x)) → posr 1) (h0 : ¬ (∀ x, x < m → pv (32 * A + x) = pv (32 * B + x)) → posr 0) : wpX_areRowsEqual posr (fv, nI m, pf, vals, made, pv) (nI A) (nI B) := by
  refine loop_0 (fun n i (_ : Unit) => wX_areRowsEqual_2 posr (nI A) (nI B) fv (nI m) pf vals made pv n (nI i)) (fun i _ => ∀ x, x < i → pv (32 * A + x) = pv (32 * B + x)) m () lt_0
    (fun n s hI => br_t (nI_le (Nat.le_refl m) (by omega)) (h1 hI))
    (fun n i s hi hI K => br_f (nI_ge hi (by omega)) ⟨zd_v1 (by omega) (by omega), zd_v1 (by omega) (by omega), br_c (fun e z ez => ?_) (fun e => h0 fun z => ?_)⟩)
  · rw [zd_c1 (by omega), zd_c1 (by omega)] at e
    rw [ez, nI_1]
    exact K () (lt_s hI e)
  · rw [zd_c1 (by omega), zd_c1 (by omega)] at e
    exact e (z i hi)
theorem zd_cnew (hm : m ≤ 32) (hc : c < 504) (h1 : (∀ r, r < c → ¬ ∀ x, x < m → pv (32 * r + x) = pv (32 * c + x)) → posr 1) (h0 : (¬ ∀ r, r < c → ¬ ∀ x, x < m → pv (32 * r + x) = pv (32 * c + x)) → posr 0) : wpX_isCandidateNew posr (fv, nI m, nI c, vals, made, pv) := by
  exact loop_0 (fun n i (_ : Unit) => wX_isCandidateNew_2 posr fv (nI m) (nI c) vals made pv n (nI i)) (fun i _ => ∀ r, r < i → ¬ ∀ x, x < m → pv (32 * r + x) = pv (32 * c + x)) c () lt_0
    (fun n s hI => br_t (nI_le (Nat.le_refl c) (by omega)) (h1 hI))
    (fun n i s hi hI K => br_f (nI_ge hi (by omega)) (zd_rows hm (by omega) hc (fun e => zd_1 (h0 fun z => z i hi e)) (fun e => zd_0 (nm_r (nI_1 i) (K () (lt_s hI e))))))
theorem zd_gbound (hF : F % 64 = 0) (hb : F + b = 64 * f) (hf : f < 8) {q : Nat} (h1 : 1 ≤ q) (h2 : q < 64) (h : zd_GI vals m F (b + q) c pv) : c < 504 := by
  have := zd_cnb vals m F hF (b + q)
  rw [← h.1] at this
  omega
theorem zd_g12 (hV : V < 6) (hF : F % 64 = 0) (hb : F + b = 64 * f) (hf : f < 8) (hk : k < V + 1) {J : Int32 → Int32 → Int32 → Int32 → (Nat → Int32) → (Nat → Int32) → (Nat → Int32) → Prop} (hI : ∃ c, pf = nI c ∧ zd_GI vals (2 ^ V) F (b + 2 ^ k) c pv) (hJ : ∀ pf' pv', (∃ c, pf' = nI c ∧ zd_GI vals (2 ^ V) F (b + 2 ^ (k + 1)) c pv') → J (nI (k + 1)) (nI V) (nI (2 ^ V)) pf' vals made pv') : ∃ n, wX_gatherParts_12 post J (nI f) (nI k) n 0 (nI V) (nI (2 ^ V)) pf vals made pv := by
  have hm := zd_m V hV
  have hk2 := zd_m k (by omega)
  refine loop_0 (fun n i (s : Int32 × (Nat → Int32)) => wX_gatherParts_12 post J (nI f) (nI k) n (nI i) (nI V) (nI (2 ^ V)) s.1 vals made s.2) (fun i s => ∃ c, s.1 = nI c ∧ zd_GI vals (2 ^ V) F (b + (2 ^ k + i)) c s.2) (2 ^ k) (pf, pv) hI
    (fun n s hI => br_t (by rw [zd_sh k (by omega)]; exact nI_le (Nat.le_refl _) (by omega)) (nm_r (nI_1 k) (hJ _ _ (by rw [Nat.pow_succ, Nat.mul_two]; exact hI))))
    (fun n i s hi hI K => br_f (by rw [zd_sh k (by omega)]; exact nI_ge hi (by omega)) ?_)
  obtain ⟨s1, s2⟩ := s
  obtain ⟨c, hc, G⟩ := hI
  dsimp only at hc G ⊢
  subst hc
  obtain ⟨t1, t2, t3⟩ := zd_tkr k (by omega) i hi
  have t4 := Nat.two_pow_pos k
  have t5 : 2 ^ k ≤ 2 ^ V := Nat.pow_le_pow_right (by decide) (by omega)
  have hc := zd_gbound hF hb hf (by omega) t3 G
  have ho : zd_ok (2 ^ V) (F + (b + (2 ^ k + i))) := by
    constructor
    · omega
    · omega
  have eN : F + (b + (2 ^ k + i)) = 64 * f + (2 ^ k + i) := by omega
  obtain ⟨W1, W0⟩ := zd_giw G hm ho
  rw [eN] at W1 W0
  refine zd_wcand hV hf hk hi hc ?_
  refine zd_cnew hm hc (fun h => zd_1 (nm_r (nI_1 c) (nm_r (nI_1 i) (K (_, _) ⟨c + 1, rfl, W1 h⟩)))) (fun h => zd_0 (nm_r (nI_1 i) (K (_, _) ⟨c, rfl, W0 h⟩)))
theorem zd_gath (hV : V < 6) (hF : F % 64 = 0) (hb : F + b = 64 * f) (hf : f < 8) (hI : ∃ c, pf = nI c ∧ zd_GI vals (2 ^ V) F (b + 1) c pv) (hp : ∀ pf' pv', (∃ c, pf' = nI c ∧ zd_GI vals (2 ^ V) F (b + 2 ^ (V + 1)) c pv') → post (nI V, nI (2 ^ V), pf', vals, made, pv')) : wpX_gatherParts post (nI V, nI (2 ^ V), pf, vals, made, pv) (nI f) := by
  exact loop_0 (fun n i (s : Int32 × (Nat → Int32)) => wX_gatherParts_2 post (nI f) n (nI i) (nI V) (nI (2 ^ V)) s.1 vals made s.2) (fun i s => ∃ c, s.1 = nI c ∧ zd_GI vals (2 ^ V) F (b + 2 ^ i) c s.2) (V + 1) (pf, pv) hI
    (fun n s hI => br_t (nI_lt (by omega) (by omega)) (hp _ _ hI))
    (fun n i s hi hI K => br_f (nI_nlt (by omega) (by omega)) (zd_g12 hV hF hb hf hi hI (fun pf' pv' h => K (pf', pv') h)))
/-- a whole place: from its first name to the next place's -/
theorem zd_place (hV : V < 6) (hF : F % 64 = 0) (hb : F + b = 64 * f) (hf : f < 8) (hI : ∃ c, pf = nI c ∧ zd_GI vals (2 ^ V) F b c pv) (hp : ∀ pf' pv', (∃ c, pf' = nI c ∧ zd_GI vals (2 ^ V) F (b + 64) c pv') → post (nI V, nI (2 ^ V), pf', vals, made, pv')) : wpX_gatherParts post (nI V, nI (2 ^ V), pf, vals, made, pv) (nI f) := by
  have hm := zd_m V hV
  obtain ⟨c, hc, G⟩ := hI
  refine zd_gath hV hF hb hf ⟨c, hc, zd_gis G fun z => ?_⟩ (fun pf' pv' h => hp _ _ ?_)
  · have := z.1
    omega
  · obtain ⟨c', hc', G'⟩ := h
    have e : 2 ^ (V + 1) = 2 * 2 ^ V := by rw [Nat.pow_succ, Nat.mul_comm]
    rw [e] at G'
    have := zd_gap G' (64 - 2 * 2 ^ V) (fun t ht z => by have := z.2; omega)
    rw [show b + 2 * 2 ^ V + (64 - 2 * 2 ^ V) = b + 64 from by omega] at this
    exact ⟨c', hc', this⟩
theorem i_vc_parts {k : Nat} {u : SX} {v : SY} (I : i_Rel k u v) (hk : k + 5 ≤ 2561) (v1 : Int32) : wpX_parts (fun r u' => wpY_parts (fun r' => r' = r ∧ i_Rel (k + 5) u' v) v v1) u v1 := by
  obtain ⟨V, pf, vals, made, pv, res, h2, h5, rfl, rfl⟩ := I
  unfold wpX_parts wpY_parts
  dsimp only
  refine zd_gX (fun hn => zd_gY (fun _ => ⟨rfl, V, pf, vals, made, pv, res, h2, h5, rfl, rfl⟩) (fun hg => absurd hg hn)) (fun hg => ?_)
  obtain ⟨f, hf, rfl⟩ := hg
  refine zd_place (F := 64 * f) (b := 0) h5 (by omega) rfl hf ⟨0, rfl, zd_gi0⟩ (fun pf' pv' h => ?_)
  obtain ⟨c, hc, G⟩ := h
  refine zd_gY (fun hn => absurd ⟨f, hf, rfl⟩ hn) (fun _ => ?_)
  have e1 : (64 : Int32) * nI f = nI (64 * f) := pk_mul 64 f
  have e2 : nI (64 * f) + (64 : Int32) = nI (64 * f + 64) := nI_add (64 * f) 64
  rw [e1, e2]
  refine zd_diff h5 (by omega) ⟨?_, V, pf', vals, made, pv', res, h2, h5, rfl, rfl⟩
  rw [hc, G.1]
theorem i_vc_allParts {k : Nat} {u : SX} {v : SY} (I : i_Rel k u v) (hk : k + 5 ≤ 2561) : wpX_allParts (fun r u' => wpY_allParts (fun r' => r' = r ∧ i_Rel (k + 5) u' v) v) u := by
  obtain ⟨V, pf, vals, made, pv, res, h2, h5, rfl, rfl⟩ := I
  unfold wpX_allParts wpY_allParts
  dsimp only
  refine loop_0 (fun n i (s : Int32 × (Nat → Int32)) => wX_allParts_7 _ n (nI i) (nI V) (nI (2 ^ V)) s.1 vals made s.2) (fun i s => ∃ c, s.1 = nI c ∧ zd_GI vals (2 ^ V) 0 (64 * i) c s.2) 8 (0, pv) ⟨0, rfl, zd_gi0⟩
    (fun n s hI => br_t (by decide) ?_)
    (fun n i s hi hI K => br_f (nI_ge (b := 8) hi (by decide)) ?_)
  · obtain ⟨c, hc, G⟩ := hI
    refine zd_diff (F := 0) (L := 512) h5 (by decide) ⟨?_, V, _, vals, made, _, res, h2, h5, rfl, rfl⟩
    rw [hc, G.1]
  · exact zd_place (F := 0) (b := 64 * i) h5 rfl (by omega) hi hI (fun pf' pv' h => nm_r (nI_1 i) (K (pf', pv') h))
end
end
