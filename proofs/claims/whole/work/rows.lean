section
theorem pk_us {f : Nat → Int32} {k : Nat} {x : Int32} : upd f k x k = x := if_pos rfl
theorem pk_un {f : Nat → Int32} {k j : Nat} {x : Int32} (h : j ≠ k) : upd f k x j = f j := if_neg h
theorem pk_mul (a b : Nat) : nI a * nI b = nI (a * b) := (Int32.ofNat_mul a b).symm
theorem pk_loop {σ : Type} (W : Nat → Nat → σ → Prop) (I : Nat → σ → Prop) (e i0 : Nat) (s : σ) (hi : i0 ≤ e) (h0 : I i0 s) (hx : ∀ n s, I e s → W (n + 1) e s)
    (hs : ∀ n i s, i < e → I i s → (∀ s', I (i + 1) s' → W n (i + 1) s') → W (n + 1) i s) : ∃ n, W n i0 s :=
  ⟨e + 1, loop_i W I e hx hs (e + 1) i0 s hi (by omega) h0⟩
/-- the two tables of values are the same function; what a call writes before it reads it is free -/
def i_Rel (_ : Nat) (u : SX) (v : SY) : Prop := ∃ (V : Nat) (pf : Int32) (vals made pv res : Nat → Int32), 2 ≤ V ∧ V < 6 ∧ u = (nI V, nI (2 ^ V), pf, vals, made, pv) ∧ v = (nI V, nI (2 ^ V), vals, res)
theorem i_up {k : Nat} {u : SX} {v : SY} (h : i_Rel k u v) : i_Rel (k + 5) u v := h
theorem zd_m : ∀ V, V < 6 → 2 ^ V ≤ 32 := by decide
theorem zd_sh : ∀ V, V < 6 → (1 : Int32) <<< (nI V &&& 31) = nI (2 ^ V) := by decide +kernel
theorem i_vc0 (k0 : Int32) : wpX_init (fun u => wpY_init (fun v => i_Rel 1 u v) k0) k0 := by
  by_cases h2 : (2 : Int32) ≤ k0
  · by_cases h5 : k0 ≤ (5 : Int32)
    · have h0 : ¬ k0 < 0 := Int32.not_lt.mpr (Int32.le_trans (by decide) h2)
      obtain ⟨j, hj, rfl⟩ := nI_of h0
      have h2' : 2 ≤ j := (nI_leI (a := 2) (by decide) hj).mp h2
      have h5' : j ≤ 5 := (nI_leI (b := 5) hj (by decide)).mp h5
      exact br_t h2 (br_t h5 (nm_r (zd_sh j (by omega)) (br_t h2 (br_t h5 (nm_r (zd_sh j (by omega)) ⟨j, 0, _, _, _, _, h2', by omega, rfl, rfl⟩)))))
    · exact br_t h2 (br_f h5 (nm_r (zd_sh 5 (by decide)) (br_t h2 (br_f h5 (nm_r (zd_sh 5 (by decide)) ⟨5, 0, _, _, _, _, by decide, by decide, rfl, rfl⟩)))))
  · have h5 : (2 : Int32) ≤ 5 := by decide
    exact br_f h2 (br_t h5 (nm_r (zd_sh 2 (by decide)) (br_f h2 (nm_r (zd_sh 2 (by decide)) ⟨2, 0, _, _, _, _, by decide, by decide, rfl, rfl⟩))))
/-! indices -/
theorem zd_ix1 (a x : Nat) : nI a * 32 + nI x = nI (32 * a + x) := by
  show nI a * nI 32 + nI x = _
  rw [pk_mul, nI_add, Nat.mul_comm]
theorem zd_ix2 (a x : Nat) : 32 * nI a + nI x = nI (32 * a + x) := by
  show nI 32 * nI a + nI x = _
  rw [pk_mul, nI_add]
theorem zd_c1 {a x : Nat} (h : 32 * a + x < 16128) : (nI a * 32 + nI x).toNatClampNeg = 32 * a + x := by
  rw [zd_ix1, nI_clamp (by omega)]
theorem zd_c2 {a x : Nat} (h : 32 * a + x < 16128) : (32 * nI a + nI x).toNatClampNeg = 32 * a + x := by
  rw [zd_ix2, nI_clamp (by omega)]
theorem zd_v1 {a x N : Nat} (h : 32 * a + x < N) (hN : N < 16129) : vp_in (nI a * 32 + nI x) N := by
  rw [zd_ix1]; exact vp_in_nI h (by omega)
theorem zd_v2 {a x N : Nat} (h : 32 * a + x < N) (hN : N < 16129) : vp_in (32 * nI a + nI x) N := by
  rw [zd_ix2]; exact vp_in_nI h (by omega)
/-! the copy of a row to place d -/
def zd_cp (a : Nat → Int32) (d m : Nat) (g : Nat → Int32) : Nat → Int32 := fun j => if 32 * d ≤ j ∧ j < 32 * d + m then g (j - 32 * d) else a j
theorem zd_cp0 (a : Nat → Int32) (d : Nat) (g : Nat → Int32) : zd_cp a d 0 g = a := by
  funext j
  unfold zd_cp
  rw [if_neg (by omega)]
theorem zd_cpi (a : Nat → Int32) (d m : Nat) (g : Nat → Int32) {x : Nat} (h : x < m) : zd_cp a d m g (32 * d + x) = g x := by
  unfold zd_cp
  rw [if_pos (by omega), Nat.add_sub_cancel_left]
theorem zd_cpo (a : Nat → Int32) (d m : Nat) (g : Nat → Int32) {e x : Nat} (he : e ≠ d) (hx : x < 32) (hm : m ≤ 32) : zd_cp a d m g (32 * e + x) = a (32 * e + x) := by
  unfold zd_cp
  rw [if_neg (by omega)]
theorem zd_cps (a : Nat → Int32) (d i : Nat) (g : Nat → Int32) : upd (zd_cp a d i g) (32 * d + i) (g i) = zd_cp a d (i + 1) g := by
  funext j
  by_cases h : j = 32 * d + i
  · subst h
    rw [pk_us, zd_cpi a d (i + 1) g (by omega)]
  · rw [pk_un h]
    unfold zd_cp
    by_cases h1 : 32 * d ≤ j ∧ j < 32 * d + i
    · rw [if_pos h1, if_pos (by omega)]
    · rw [if_neg h1, if_neg (by omega)]
theorem zd_put {post : SX → Prop} {d m : Nat} {fv pf : Int32} {vals made pv g : Nat → Int32} (hd : d < 8) (hm : m ≤ 32) (hg : ∀ x, x < m → made x = g x) (hp : post (fv, nI m, pf, zd_cp vals d m g, made, pv)) : wpX_putMade post (fv, nI m, pf, vals, made, pv) (nI d) :=
  loop_0 (fun n i s => wX_putMade_2 post (nI d) fv (nI m) pf n (nI i) s made pv) (fun i s => s = zd_cp vals d i g) m vals (zd_cp0 _ _ _).symm
    (fun n s hI => br_t (nI_le (Nat.le_refl m) (by omega)) (by subst hI; exact hp))
    (fun n i s hi hI K => br_f (nI_ge hi (by omega)) ⟨vp_in_nI (by omega) (by omega), zd_v1 (by omega) (by omega), fun a ea y ey => by
      rw [ea, ey, nI_1, zd_c1 (by omega), nI_clamp (by omega), hg i hi, hI, zd_cps]
      exact K _ rfl⟩)
theorem zd_keep {post : Int32 → SY → Prop} {d m : Nat} {fv : Int32} {vals res g : Nat → Int32} (hd : d < 8) (hm : m ≤ 32) (hg : ∀ x, x < m → res x = g x) (hp : post 1 (fv, nI m, zd_cp vals d m g, res)) : wpY_keep post (fv, nI m, vals, res) (nI d) :=
  loop_0 (fun n i s => wY_keep_2 post (nI d) fv (nI m) n (nI i) s res) (fun i s => s = zd_cp vals d i g) m vals (zd_cp0 _ _ _).symm
    (fun n s hI => br_t (nI_le (Nat.le_refl m) (by omega)) (by subst hI; exact hp))
    (fun n i s hi hI K => br_f (nI_ge hi (by omega)) ⟨vp_in_nI (by omega) (by omega), zd_v2 (by omega) (by omega), fun a ea y ey => by
      rw [ea, ey, nI_1, zd_c2 (by omega), nI_clamp (by omega), hg i hi, hI, zd_cps]
      exact K _ rfl⟩)
theorem zd_nb : narrow .boolean (.int (1 : Int32)) = .int (1 : Int32) := by first | rfl | exact lw_bz_n 1 | decide
/-- one turn of a loop that fills the scratch row -/
theorem zd_st {P : Int32 → (Nat → Int32) → Prop} {s g : Nat → Int32} {i : Nat} {w : Int32} (hi : i < 32) (hI : ∀ x, x < i → s x = g x) (hw : w = g i) (K : ∀ s', (∀ x, x < i + 1 → s' x = g x) → P (nI (i + 1)) s') : vp_in (nI i) 32 ∧ ∀ a, a = upd s (nI i).toNatClampNeg w → ∀ y, y = nI i + 1 → P y a := by
  refine ⟨vp_in_nI hi (by omega), fun a ea y ey => ?_⟩
  rw [ey, nI_1]
  refine K a (fun x hx => ?_)
  rw [ea, nI_clamp (by omega)]
  by_cases h : x = i
  · subst h; rw [pk_us]; exact hw
  · rw [pk_un h]; exact hI x (by omega)
/-! the guards -/
def zd_in (n : Nat) (x : Int32) : Prop := ∃ j : Nat, j < n ∧ x = nI j
theorem zd_in_iff {n : Nat} (hn : n < 2 ^ 31) {x : Int32} : zd_in n x ↔ ¬ x < 0 ∧ ¬ nI n ≤ x := by
  constructor
  · rintro ⟨j, hj, rfl⟩
    exact ⟨nI_pos (by omega), nI_ge hj hn⟩
  · rintro ⟨h0, h⟩
    obtain ⟨j, hj, rfl⟩ := nI_of h0
    rw [nI_leI hn hj] at h
    exact ⟨j, by omega, rfl⟩
theorem zd_in_iff' {n : Nat} (hn : n + 1 < 2 ^ 31) {x : Int32} : zd_in (n + 1) x ↔ ¬ x < 0 ∧ ¬ nI n < x := by
  constructor
  · rintro ⟨j, hj, rfl⟩
    exact ⟨nI_pos (by omega), nI_nlt (by omega) (by omega)⟩
  · rintro ⟨h0, h⟩
    obtain ⟨j, hj, rfl⟩ := nI_of h0
    rw [nI_ltI (by omega) hj] at h
    exact ⟨j, by omega, rfl⟩
theorem zd_0 {A B : Prop} (h : A) : ((0 : Int32) = 0 → A) ∧ (¬ (0 : Int32) = 0 → B) := br_t rfl h
theorem zd_1 {A B : Prop} (h : B) : ((1 : Int32) = 0 → A) ∧ (¬ (1 : Int32) = 0 → B) := br_f (by decide) h
theorem zd_gX {A B : Prop} {x : Int32} (hA : ¬ zd_in 8 x → A) (hB : zd_in 8 x → B) : wpX_isPlace (fun r => (r = 0 → A) ∧ (¬ r = 0 → B)) x :=
  br_c (fun h => zd_0 (hA fun z => ((zd_in_iff (by decide)).mp z).1 h)) (fun h => br_c (fun h8 => zd_0 (hA fun z => ((zd_in_iff (by decide)).mp z).2 h8)) (fun h8 => zd_1 (hB ((zd_in_iff (by decide)).mpr ⟨h, h8⟩))))
theorem zd_gY {A B : Prop} {x a b : Int32} {va re : Nat → Int32} (hA : ¬ zd_in 8 x → A) (hB : zd_in 8 x → B) : wpY_isPlace (fun r => (r = 0 → A) ∧ (¬ r = 0 → B)) (a, b, va, re) x :=
  br_c (fun h => zd_0 (hA fun z => ((zd_in_iff' (n := 7) (by decide)).mp z).1 h)) (fun h => br_c (fun h8 => zd_0 (hA fun z => ((zd_in_iff' (n := 7) (by decide)).mp z).2 h8)) (fun h8 => zd_1 (hB ((zd_in_iff' (n := 7) (by decide)).mpr ⟨h, h8⟩))))
theorem zd_gOX {A B : Prop} {x : Int32} (hA : ¬ zd_in 7 x → A) (hB : zd_in 7 x → B) : wpX_isOperation (fun r => (r = 0 → A) ∧ (¬ r = 0 → B)) x :=
  br_c (fun h => zd_0 (hA fun z => ((zd_in_iff' (n := 6) (by decide)).mp z).1 h)) (fun h => br_c (fun h8 => zd_0 (hA fun z => ((zd_in_iff' (n := 6) (by decide)).mp z).2 h8)) (fun h8 => zd_1 (hB ((zd_in_iff' (n := 6) (by decide)).mpr ⟨h, h8⟩))))
theorem zd_gOY {A B : Prop} {x : Int32} (hA : ¬ zd_in 7 x → A) (hB : zd_in 7 x → B) : (x < 0 → A) ∧ (¬ x < 0 → (6 < x → A) ∧ (¬ 6 < x → B)) :=
  br_c (fun h => hA fun z => ((zd_in_iff' (n := 6) (by decide)).mp z).1 h) (fun h => br_c (fun h8 => hA fun z => ((zd_in_iff' (n := 6) (by decide)).mp z).2 h8) (fun h8 => hB ((zd_in_iff' (n := 6) (by decide)).mpr ⟨h, h8⟩)))
theorem zd_gOZ {A B : Prop} {x : Int32} (hA : ¬ zd_in 7 x → A) (hB : zd_in 7 x → B) : (x < 0 → A) ∧ (¬ x < 0 → (x ≤ 6 → B) ∧ (¬ x ≤ 6 → A)) :=
  br_c (fun h => hA fun z => ((zd_in_iff' (n := 6) (by decide)).mp z).1 h) (fun h => br_c (fun h8 => hB ((zd_in_iff' (n := 6) (by decide)).mpr ⟨h, Int32.not_lt.mpr h8⟩)) (fun h8 => hA fun z => h8 (Int32.not_lt.mp ((zd_in_iff' (n := 6) (by decide)).mp z).2)))
theorem zd_gVX {A B : Prop} {x b c : Int32} {V : Nat} {va ma pv : Nat → Int32} (hV : V < 6) (hA : ¬ zd_in V x → A) (hB : zd_in V x → B) : wpX_isVariable (fun r => (r = 0 → A) ∧ (¬ r = 0 → B)) (nI V, b, c, va, ma, pv) x :=
  br_c (fun h => zd_0 (hA fun z => ((zd_in_iff (by omega)).mp z).1 h)) (fun h => br_c (fun h8 => zd_0 (hA fun z => ((zd_in_iff (by omega)).mp z).2 h8)) (fun h8 => zd_1 (hB ((zd_in_iff (by omega)).mpr ⟨h, h8⟩))))
theorem zd_gVY {A B : Prop} {x b : Int32} {V : Nat} {va re : Nat → Int32} (hV : V < 6) (hA : ¬ zd_in V x → A) (hB : zd_in V x → B) : wpY_isVariable (fun r => (r = 0 → A) ∧ (¬ r = 0 → B)) (nI V, b, va, re) x :=
  br_c (fun h => zd_0 (hA fun z => ((zd_in_iff (by omega)).mp z).1 h)) (fun h => br_c (fun h8 => zd_0 (hA fun z => ((zd_in_iff (by omega)).mp z).2 h8)) (fun h8 => zd_1 (hB ((zd_in_iff (by omega)).mpr ⟨h, h8⟩))))
end
section
/-! bits: what the two sides reckon of x and v, by closed tables -/
def zd_cl (x v : Nat) : Nat := (nI x &&& (((1 : Int32) <<< (nI v &&& 31)) ^^^ (-1))).toNatClampNeg
def zd_se (x v : Nat) : Nat := (nI x ||| ((1 : Int32) <<< (nI v &&& 31))).toNatClampNeg
def zd_fl (x v : Nat) : Nat := (nI x ^^^ ((1 : Int32) <<< (nI v &&& 31))).toNatClampNeg
theorem zd_tcl : ∀ V, V < 6 → ∀ x, x < 2 ^ V → ∀ v, v < V → nI x &&& (((1 : Int32) <<< (nI v &&& 31)) ^^^ (-1)) = nI (zd_cl x v) ∧ zd_cl x v < 2 ^ V := by decide +kernel
theorem zd_tse : ∀ V, V < 6 → ∀ x, x < 2 ^ V → ∀ v, v < V → nI x ||| ((1 : Int32) <<< (nI v &&& 31)) = nI (zd_se x v) ∧ zd_se x v < 2 ^ V := by decide +kernel
theorem zd_tfl : ∀ V, V < 6 → ∀ x, x < 2 ^ V → ∀ v, v < V → nI x ^^^ ((1 : Int32) <<< (nI v &&& 31)) = nI (zd_fl x v) ∧ zd_fl x v < 2 ^ V := by decide +kernel
def zd_bi (x v : Nat) : Int32 := (nI x >>> (nI v &&& 31)) &&& 1
def zd_ex (x u v : Nat) : Nat := if zd_bi x u = zd_bi x v then x else ((nI x ^^^ ((1 : Int32) <<< (nI u &&& 31))) ^^^ ((1 : Int32) <<< (nI v &&& 31))).toNatClampNeg
def zd_wi (p q r : Int32) : Int32 := if r = 1 then p ||| ((1 : Int32) <<< (q &&& 31)) else p &&& (((1 : Int32) <<< (q &&& 31)) ^^^ (-1))
theorem zd_tex0 : ∀ V, V < 6 → ∀ x, x < 2 ^ V → ∀ u, u < V → ∀ v, v < V → zd_ex x u v < 2 ^ V := by decide +kernel
theorem zd_tex1 : ∀ V, V < 6 → ∀ x, x < 2 ^ V → ∀ u, u < V → ∀ v, v < V → zd_bi x u = zd_bi x v ∨ (nI x ^^^ ((1 : Int32) <<< (nI u &&& 31))) ^^^ ((1 : Int32) <<< (nI v &&& 31)) = nI (zd_ex x u v) := by decide +kernel
theorem zd_tex2 : ∀ V, V < 6 → ∀ x, x < 2 ^ V → ∀ u, u < V → ∀ v, v < V → zd_wi (zd_wi (nI x) (nI u) (zd_bi x v)) (nI v) (zd_bi x u) = nI (zd_ex x u v) := by decide +kernel
theorem zd_with {post : Int32 → Prop} {a b : Int32} {va re : Nat → Int32} {p q r : Int32} (h : post (zd_wi p q r)) : wpY_with post (a, b, va, re) p q r := by
  by_cases e : r = 1
  · refine br_t e ?_
    unfold zd_wi at h
    rw [if_pos e] at h
    exact h
  · refine br_f e ?_
    unfold zd_wi at h
    rw [if_neg e] at h
    exact h
theorem zd_bit {post : Int32 → Prop} {a b : Int32} {va re : Nat → Int32} {p q : Int32} (h : post ((p >>> (q &&& 31)) &&& 1)) : wpY_bit post (a, b, va, re) p q := h
theorem zd_wex {post : Int32 → Prop} {V x u v : Nat} (hV : V < 6) (hx : x < 2 ^ V) (hu : u < V) (hv : v < V) (h : post (nI (zd_ex x u v))) : wpX_withExchanged post (nI x) (nI u) (nI v) := by
  refine nm_e (nm_e ?_)
  by_cases e : zd_bi x u = zd_bi x v
  · refine br_t e ?_
    unfold zd_ex at h
    rw [if_pos e] at h
    exact h
  · refine br_f e ?_
    rw [(zd_tex1 V hV x hx u hu v hv).resolve_left e]
    exact h
/-! the seven operations -/
def zd_op (o : Nat) (p q : Int32) : Int32 := match o with
  | 0 => p + q
  | 1 => p - q
  | 2 => p * q
  | 3 => if q ≤ p then q else p
  | 4 => if p ≤ q then q else p
  | 5 => if q ≤ p then 0 else 1
  | _ => if p = q then 1 else 0
theorem zd_if {c : Prop} {post : Int32 → Prop} (d : Decidable c) {a b : Int32} (h : post (@ite Int32 c d a b)) : (c → post a) ∧ (¬ c → post b) := by
  by_cases e : c
  · rw [if_pos e] at h
    exact br_t e h
  · rw [if_neg e] at h
    exact br_f e h
theorem zd_comb {post : Int32 → Prop} {o : Nat} {p q : Int32} (ho : o < 7) (h : post (zd_op o p q)) : wpX_combine post (nI o) p q := by
  obtain rfl | rfl | rfl | rfl | rfl | rfl | rfl : o = 0 ∨ o = 1 ∨ o = 2 ∨ o = 3 ∨ o = 4 ∨ o = 5 ∨ o = 6 := by omega
  · exact br_f (by decide) (br_f (by decide) (br_t (by decide) h))
  · exact br_f (by decide) (br_f (by decide) (br_f (by decide) (br_t (by decide) h)))
  · exact br_f (by decide) (br_f (by decide) (br_f (by decide) (br_f (by decide) (br_t (by decide) h))))
  · exact br_f (by decide) (br_f (by decide) (br_f (by decide) (br_f (by decide) (br_f (by decide) (br_t (by decide) (zd_if _ h))))))
  · exact br_f (by decide) (br_f (by decide) (br_f (by decide) (br_f (by decide) (br_f (by decide) (br_f (by decide) (br_t (by decide) (zd_if _ h)))))))
  · exact br_f (by decide) (br_f (by decide) (br_f (by decide) (br_f (by decide) (br_f (by decide) (br_f (by decide) (br_f (by decide) (br_t (by decide) (zd_if _ h))))))))
  · exact br_f (by decide) (br_t (by decide) (zd_if _ h))
theorem zd_oper {post : Int32 → Prop} {o : Nat} {p q a b : Int32} {va re : Nat → Int32} (ho : o < 7) (h : post (zd_op o p q)) : wpY_op post (a, b, va, re) (nI o) p q := by
  obtain rfl | rfl | rfl | rfl | rfl | rfl | rfl : o = 0 ∨ o = 1 ∨ o = 2 ∨ o = 3 ∨ o = 4 ∨ o = 5 ∨ o = 6 := by omega
  · exact br_t (by decide) h
  · exact br_f (by decide) (br_t (by decide) h)
  · exact br_f (by decide) (br_f (by decide) (br_t (by decide) h))
  · exact br_f (by decide) (br_f (by decide) (br_f (by decide) (br_t (by decide) (zd_if _ h))))
  · exact br_f (by decide) (br_f (by decide) (br_f (by decide) (br_f (by decide) (br_t (by decide) (zd_if _ h)))))
  · exact br_f (by decide) (br_f (by decide) (br_f (by decide) (br_f (by decide) (br_f (by decide) (br_t (by decide) (zd_if _ h))))))
  · exact br_f (by decide) (br_f (by decide) (br_f (by decide) (br_f (by decide) (br_f (by decide) (br_f (by decide) (zd_if _ h))))))
end
section
/-! the loops that fill the scratch row, on both sides against one row g -/
section
variable {d m a b c o V u v : Nat} {fv pf cc : Int32} {vals made pv res : Nat → Int32} {post : Int32 → SX → Prop} {posy : Int32 → SY → Prop}
theorem zd_xconstant (hd : d < 8) (hm : m ≤ 32) (hp : ∀ z, post 1 (fv, nI m, pf, zd_cp vals d m (fun _ => cc), z, pv)) : ∃ n, wX_constant_11 post (nI d) cc fv (nI m) pf n 0 vals made pv :=
  loop_0 (fun n i s => wX_constant_11 post (nI d) cc fv (nI m) pf n (nI i) vals s pv) (fun i s => ∀ x, x < i → s x = (fun _ => cc) x) m made lt_0
    (fun n s hI => br_t (nI_le (Nat.le_refl m) (by omega)) (zd_put hd hm hI (hp s)))
    (fun n i s hi hI K => br_f (nI_ge hi (by omega)) (zd_st (by omega) hI rfl K))
theorem zd_yconstant (hd : d < 8) (hm : m ≤ 32) (hp : ∀ z, posy 1 (fv, nI m, zd_cp vals d m (fun _ => cc), z)) : ∃ n, wY_constant_12 posy (nI d) cc fv (nI m) n 0 vals res :=
  loop_0 (fun n i s => wY_constant_12 posy (nI d) cc fv (nI m) n (nI i) vals s) (fun i s => ∀ x, x < i → s x = (fun _ => cc) x) m res lt_0
    (fun n s hI => br_t (nI_le (Nat.le_refl m) (by omega)) (zd_keep hd hm hI ⟨zd_nb, hp s⟩))
    (fun n i s hi hI K => br_f (nI_ge hi (by omega)) (zd_st (by omega) hI rfl K))
theorem zd_xliteral (hd : d < 8) (hm : m ≤ 32) (hp : ∀ z, post 1 (fv, nI m, pf, zd_cp vals d m (fun x => zd_bi x v), z, pv)) : ∃ n, wX_literal_19 post (nI d) (nI v) fv (nI m) pf n 0 vals made pv :=
  loop_0 (fun n i s => wX_literal_19 post (nI d) (nI v) fv (nI m) pf n (nI i) vals s pv) (fun i s => ∀ x, x < i → s x = (fun x => zd_bi x v) x) m made lt_0
    (fun n s hI => br_t (nI_le (Nat.le_refl m) (by omega)) (zd_put hd hm hI (hp s)))
    (fun n i s hi hI K => br_f (nI_ge hi (by omega)) (zd_st (by omega) hI rfl K))
theorem zd_yliteral (hd : d < 8) (hm : m ≤ 32) (hp : ∀ z, posy 1 (fv, nI m, zd_cp vals d m (fun x => zd_bi x v), z)) : ∃ n, wY_literal_20 posy (nI d) (nI v) fv (nI m) n 0 vals res :=
  loop_0 (fun n i s => wY_literal_20 posy (nI d) (nI v) fv (nI m) n (nI i) vals s) (fun i s => ∀ x, x < i → s x = (fun x => zd_bi x v) x) m res lt_0
    (fun n s hI => br_t (nI_le (Nat.le_refl m) (by omega)) (zd_keep hd hm hI ⟨zd_nb, hp s⟩))
    (fun n i s hi hI K => br_f (nI_ge hi (by omega)) (zd_st (by omega) hI rfl K))
theorem zd_xapply (hd : d < 8) (ha : a < 8) (hb : b < 8) (ho : o < 7) (hm : m ≤ 32) (hp : ∀ z, post 1 (fv, nI m, pf, zd_cp vals d m (fun x => zd_op o (vals (32 * a + x)) (vals (32 * b + x))), z, pv)) : ∃ n, wX_apply_34 post (nI d) (nI o) (nI a) (nI b) fv (nI m) pf n 0 vals made pv :=
  loop_0 (fun n i s => wX_apply_34 post (nI d) (nI o) (nI a) (nI b) fv (nI m) pf n (nI i) vals s pv) (fun i s => ∀ x, x < i → s x = (fun x => zd_op o (vals (32 * a + x)) (vals (32 * b + x))) x) m made lt_0
    (fun n s hI => br_t (nI_le (Nat.le_refl m) (by omega)) (zd_put hd hm hI (hp s)))
    (fun n i s hi hI K => br_f (nI_ge hi (by omega)) ⟨zd_v1 (by omega) (by omega), zd_v1 (by omega) (by omega), zd_comb ho (zd_st (by omega) hI (by rw [zd_c1 (by omega), zd_c1 (by omega)]) K)⟩)
theorem zd_yapply (hd : d < 8) (ha : a < 8) (hb : b < 8) (ho : o < 7) (hm : m ≤ 32) (hp : ∀ z, posy 1 (fv, nI m, zd_cp vals d m (fun x => zd_op o (vals (32 * a + x)) (vals (32 * b + x))), z)) : ∃ n, wY_apply_40 posy (nI d) (nI o) (nI a) (nI b) fv (nI m) n 0 vals res :=
  loop_0 (fun n i s => wY_apply_40 posy (nI d) (nI o) (nI a) (nI b) fv (nI m) n (nI i) vals s) (fun i s => ∀ x, x < i → s x = (fun x => zd_op o (vals (32 * a + x)) (vals (32 * b + x))) x) m res lt_0
    (fun n s hI => br_t (nI_le (Nat.le_refl m) (by omega)) (zd_keep hd hm hI ⟨zd_nb, hp s⟩))
    (fun n i s hi hI K => br_f (nI_ge hi (by omega)) ⟨zd_v2 (by omega) (by omega), zd_v2 (by omega) (by omega), zd_oper ho (zd_st (by omega) hI (by rw [zd_c2 (by omega), zd_c2 (by omega)]) K)⟩)
theorem zd_xchoose (hd : d < 8) (hc : c < 8) (ha : a < 8) (hb : b < 8) (hm : m ≤ 32) (hp : ∀ z, post 1 (fv, nI m, pf, zd_cp vals d m (fun x => if vals (32 * c + x) = 0 then vals (32 * b + x) else vals (32 * a + x)), z, pv)) : ∃ n, wX_choose_34 post (nI d) (nI c) (nI a) (nI b) fv (nI m) pf n 0 vals made pv :=
  loop_0 (fun n i s => wX_choose_34 post (nI d) (nI c) (nI a) (nI b) fv (nI m) pf n (nI i) vals s pv) (fun i s => ∀ x, x < i → s x = (fun x => if vals (32 * c + x) = 0 then vals (32 * b + x) else vals (32 * a + x)) x) m made lt_0
    (fun n s hI => br_t (nI_le (Nat.le_refl m) (by omega)) (zd_put hd hm hI (hp s)))
    (fun n i s hi hI K => br_f (nI_ge hi (by omega)) ⟨zd_v1 (by omega) (by omega),
      br_c (fun e => ⟨zd_v1 (by omega) (by omega), zd_st (by omega) hI (by rw [zd_c1 (by omega)] at e; rw [zd_c1 (by omega)]; exact (if_pos e).symm) K⟩)
        (fun e => ⟨zd_v1 (by omega) (by omega), zd_st (by omega) hI (by rw [zd_c1 (by omega)] at e; rw [zd_c1 (by omega)]; exact (if_neg e).symm) K⟩)⟩)
theorem zd_ychoose (hd : d < 8) (hc : c < 8) (ha : a < 8) (hb : b < 8) (hm : m ≤ 32) (hp : ∀ z, posy 1 (fv, nI m, zd_cp vals d m (fun x => if vals (32 * c + x) = 0 then vals (32 * b + x) else vals (32 * a + x)), z)) : ∃ n, wY_choose_38 posy (nI d) (nI c) (nI a) (nI b) fv (nI m) n 0 vals res :=
  loop_0 (fun n i s => wY_choose_38 posy (nI d) (nI c) (nI a) (nI b) fv (nI m) n (nI i) vals s) (fun i s => ∀ x, x < i → s x = (fun x => if vals (32 * c + x) = 0 then vals (32 * b + x) else vals (32 * a + x)) x) m res lt_0
    (fun n s hI => br_t (nI_le (Nat.le_refl m) (by omega)) (zd_keep hd hm hI ⟨zd_nb, hp s⟩))
    (fun n i s hi hI K => br_f (nI_ge hi (by omega)) ⟨zd_v2 (by omega) (by omega),
      br_c (fun e => ⟨zd_v2 (by omega) (by omega), zd_st (by omega) hI (by rw [zd_c2 (by omega)] at e; rw [zd_c2 (by omega)]; exact (if_pos e).symm) K⟩)
        (fun e => ⟨zd_v2 (by omega) (by omega), zd_st (by omega) hI (by rw [zd_c2 (by omega)] at e; rw [zd_c2 (by omega)]; exact (if_neg e).symm) K⟩)⟩)
theorem zd_xfold (hV : V < 6) (hd : d < 8) (ha : a < 8) (ho : o < 7) (hv : v < V) (hp : ∀ z, post 1 (fv, nI (2 ^ V), pf, zd_cp vals d (2 ^ V) (fun x => zd_op o (vals (32 * a + zd_cl x v)) (vals (32 * a + zd_se x v))), z, pv)) : ∃ n, wX_fold_41 post (nI d) (nI o) (nI a) ((1 : Int32) <<< (nI v &&& 31)) fv (nI (2 ^ V)) pf n 0 vals made pv := by
  have hm := zd_m V hV
  have T1 := zd_tcl V hV
  have T2 := zd_tse V hV
  generalize 2 ^ V = m at *
  refine loop_0 (fun n i s => wX_fold_41 post (nI d) (nI o) (nI a) ((1 : Int32) <<< (nI v &&& 31)) fv (nI m) pf n (nI i) vals s pv) (fun i s => ∀ x, x < i → s x = (fun x => zd_op o (vals (32 * a + zd_cl x v)) (vals (32 * a + zd_se x v))) x) m made lt_0
    (fun n s hI => br_t (nI_le (Nat.le_refl m) (by omega)) (zd_put hd hm hI (hp s)))
    (fun n i s hi hI K => br_f (nI_ge hi (by omega)) ?_)
  obtain ⟨e1, b1⟩ := T1 i hi v hv
  obtain ⟨e2, b2⟩ := T2 i hi v hv
  rw [e1, e2]
  exact ⟨zd_v1 (by omega) (by omega), nm_e ⟨zd_v1 (by omega) (by omega), nm_e (zd_comb ho (zd_st (by omega) hI (by rw [zd_c1 (by omega), zd_c1 (by omega)]) K))⟩⟩
theorem zd_yfold (hV : V < 6) (hd : d < 8) (ha : a < 8) (ho : o < 7) (hv : v < V) (hp : ∀ z, posy 1 (fv, nI (2 ^ V), zd_cp vals d (2 ^ V) (fun x => zd_op o (vals (32 * a + zd_cl x v)) (vals (32 * a + zd_se x v))), z)) : ∃ n, wY_fold_40 posy (nI d) (nI o) (nI a) (nI v) fv (nI (2 ^ V)) n 0 vals res := by
  have hm := zd_m V hV
  have T1 := zd_tcl V hV
  have T2 := zd_tse V hV
  generalize 2 ^ V = m at *
  refine loop_0 (fun n i s => wY_fold_40 posy (nI d) (nI o) (nI a) (nI v) fv (nI m) n (nI i) vals s) (fun i s => ∀ x, x < i → s x = (fun x => zd_op o (vals (32 * a + zd_cl x v)) (vals (32 * a + zd_se x v))) x) m res lt_0
    (fun n s hI => br_t (nI_le (Nat.le_refl m) (by omega)) (zd_keep hd hm hI ⟨zd_nb, hp s⟩))
    (fun n i s hi hI K => br_f (nI_ge hi (by omega)) ?_)
  obtain ⟨e1, b1⟩ := T1 i hi v hv
  obtain ⟨e2, b2⟩ := T2 i hi v hv
  exact nm_r e1 (nm_r e2 ⟨zd_v2 (by omega) (by omega), zd_v2 (by omega) (by omega), zd_oper ho (zd_st (by omega) hI (by rw [zd_c2 (by omega), zd_c2 (by omega)]) K)⟩)
theorem zd_xsubstitute (hV : V < 6) (hd : d < 8) (ha : a < 8) (hb : b < 8) (hv : v < V) (hp : ∀ z, post 1 (fv, nI (2 ^ V), pf, zd_cp vals d (2 ^ V) (fun x => vals (32 * a + if vals (32 * b + x) = 0 then zd_cl x v else zd_se x v)), z, pv)) : ∃ n, wX_substitute_40 post (nI d) (nI a) (nI b) ((1 : Int32) <<< (nI v &&& 31)) fv (nI (2 ^ V)) pf n 0 vals made pv := by
  have hm := zd_m V hV
  have T1 := zd_tcl V hV
  have T2 := zd_tse V hV
  generalize 2 ^ V = m at *
  refine loop_0 (fun n i s => wX_substitute_40 post (nI d) (nI a) (nI b) ((1 : Int32) <<< (nI v &&& 31)) fv (nI m) pf n (nI i) vals s pv) (fun i s => ∀ x, x < i → s x = (fun x => vals (32 * a + if vals (32 * b + x) = 0 then zd_cl x v else zd_se x v)) x) m made lt_0
    (fun n s hI => br_t (nI_le (Nat.le_refl m) (by omega)) (zd_put hd hm hI (hp s)))
    (fun n i s hi hI K => br_f (nI_ge hi (by omega)) ⟨zd_v1 (by omega) (by omega), br_c (fun e => ?_) (fun e => ?_)⟩)
  · obtain ⟨e1, b1⟩ := T1 i hi v hv
    rw [zd_c1 (by omega)] at e
    rw [e1]
    exact ⟨zd_v1 (by omega) (by omega), zd_st (by omega) hI (by rw [zd_c1 (by omega)]; rw [if_pos e]) K⟩
  · obtain ⟨e1, b1⟩ := T2 i hi v hv
    rw [zd_c1 (by omega)] at e
    rw [e1]
    exact ⟨zd_v1 (by omega) (by omega), zd_st (by omega) hI (by rw [zd_c1 (by omega)]; rw [if_neg e]) K⟩
theorem zd_ysubstitute (hV : V < 6) (hd : d < 8) (ha : a < 8) (hb : b < 8) (hv : v < V) (hp : ∀ z, posy 1 (fv, nI (2 ^ V), zd_cp vals d (2 ^ V) (fun x => vals (32 * a + if vals (32 * b + x) = 0 then zd_cl x v else zd_se x v)), z)) : ∃ n, wY_substitute_38 posy (nI d) (nI a) (nI v) (nI b) fv (nI (2 ^ V)) n 0 vals res := by
  have hm := zd_m V hV
  have T1 := zd_tcl V hV
  have T2 := zd_tse V hV
  generalize 2 ^ V = m at *
  refine loop_0 (fun n i s => wY_substitute_38 posy (nI d) (nI a) (nI v) (nI b) fv (nI m) n (nI i) vals s) (fun i s => ∀ x, x < i → s x = (fun x => vals (32 * a + if vals (32 * b + x) = 0 then zd_cl x v else zd_se x v)) x) m res lt_0
    (fun n s hI => br_t (nI_le (Nat.le_refl m) (by omega)) (zd_keep hd hm hI ⟨zd_nb, hp s⟩))
    (fun n i s hi hI K => br_f (nI_ge hi (by omega)) ⟨zd_v2 (by omega) (by omega), br_c (fun e => br_f (by decide) ?_) (fun e => br_t rfl ?_)⟩)
  · obtain ⟨e1, b1⟩ := T1 i hi v hv
    rw [zd_c2 (by omega)] at e
    rw [e1]
    exact ⟨zd_v2 (by omega) (by omega), zd_st (by omega) hI (by rw [zd_c2 (by omega)]; rw [if_pos e]) K⟩
  · obtain ⟨e1, b1⟩ := T2 i hi v hv
    rw [zd_c2 (by omega)] at e
    rw [e1]
    exact ⟨zd_v2 (by omega) (by omega), zd_st (by omega) hI (by rw [zd_c2 (by omega)]; rw [if_neg e]) K⟩
theorem zd_xexchange (hV : V < 6) (hd : d < 8) (ha : a < 8) (hu : u < V) (hv : v < V) (hp : ∀ z, post 1 (fv, nI (2 ^ V), pf, zd_cp vals d (2 ^ V) (fun x => vals (32 * a + zd_ex x u v)), z, pv)) : ∃ n, wX_exchange_36 post (nI d) (nI a) (nI u) (nI v) fv (nI (2 ^ V)) pf n 0 vals made pv := by
  have hm := zd_m V hV
  refine loop_0 (fun n i s => wX_exchange_36 post (nI d) (nI a) (nI u) (nI v) fv (nI (2 ^ V)) pf n (nI i) vals s pv) (fun i s => ∀ x, x < i → s x = (fun x => vals (32 * a + zd_ex x u v)) x) (2 ^ V) made lt_0
    (fun n s hI => br_t (nI_le (Nat.le_refl _) (by omega)) (zd_put hd hm hI (hp s)))
    (fun n i s hi hI K => br_f (nI_ge hi (by omega)) (zd_wex hV hi hu hv ?_))
  have b1 := zd_tex0 V hV i hi u hu v hv
  exact ⟨zd_v1 (by omega) (by omega), zd_st (by omega) hI (by rw [zd_c1 (by omega)]) K⟩
theorem zd_yexchange (hV : V < 6) (hd : d < 8) (ha : a < 8) (hu : u < V) (hv : v < V) (hp : ∀ z, posy 1 (fv, nI (2 ^ V), zd_cp vals d (2 ^ V) (fun x => vals (32 * a + zd_ex x u v)), z)) : ∃ n, wY_exchange_38 posy (nI d) (nI a) (nI u) (nI v) fv (nI (2 ^ V)) n 0 vals res := by
  have hm := zd_m V hV
  refine loop_0 (fun n i s => wY_exchange_38 posy (nI d) (nI a) (nI u) (nI v) fv (nI (2 ^ V)) n (nI i) vals s) (fun i s => ∀ x, x < i → s x = (fun x => vals (32 * a + zd_ex x u v)) x) (2 ^ V) res lt_0
    (fun n s hI => br_t (nI_le (Nat.le_refl _) (by omega)) (zd_keep hd hm hI ⟨zd_nb, hp s⟩))
    (fun n i s hi hI K => br_f (nI_ge hi (by omega)) (zd_bit (zd_bit (zd_with (zd_with ?_)))))
  have b1 := zd_tex0 V hV i hi u hu v hv
  have e1 : zd_wi (zd_wi (nI i) (nI u) ((nI i >>> (nI v &&& 31)) &&& 1)) (nI v) ((nI i >>> (nI u &&& 31)) &&& 1) = nI (zd_ex i u v) := zd_tex2 V hV i hi u hu v hv
  rw [e1]
  exact ⟨zd_v2 (by omega) (by omega), zd_st (by omega) hI (by rw [zd_c2 (by omega)]) K⟩
end
end
section
/-! the owed statements of the writers -/
section
theorem i_vc_constant {k : Nat} {u : SX} {v : SY} (I : i_Rel k u v) (hk : k + 5 ≤ 2561) (v1 : Int32) (v2 : Int32) : wpX_constant (fun r u' => wpY_constant (fun r' v' => r' = r ∧ i_Rel (k + 5) u' v') v v1 v2) u v1 v2 := by
  obtain ⟨V, pf, vals, made, pv, res, h2, h5, rfl, rfl⟩ := I
  have hm := zd_m V h5
  unfold wpX_constant
  dsimp only
  refine zd_gX (fun hn => ?_) (fun hg => ?_)
  · unfold wpY_constant
    dsimp only
    exact zd_gY (fun _ => ⟨rfl, V, pf, vals, made, pv, res, h2, h5, rfl, rfl⟩) (fun hg => absurd hg hn)
  · obtain ⟨d, hd, rfl⟩ := hg
    refine zd_xconstant hd hm (fun made' => ?_)
    unfold wpY_constant
    dsimp only
    exact zd_gY (fun hn => absurd ⟨d, hd, rfl⟩ hn) (fun _ => zd_yconstant hd hm (fun res' => ⟨rfl, V, pf, _, made', pv, res', h2, h5, rfl, rfl⟩))
theorem i_vc_literal {k : Nat} {u : SX} {v : SY} (I : i_Rel k u v) (hk : k + 5 ≤ 2561) (v1 : Int32) (v2 : Int32) : wpX_literal (fun r u' => wpY_literal (fun r' v' => r' = r ∧ i_Rel (k + 5) u' v') v v1 v2) u v1 v2 := by
  obtain ⟨V, pf, vals, made, pv, res, h2, h5, rfl, rfl⟩ := I
  have hm := zd_m V h5
  have bad : ¬ (zd_in 8 v1 ∧ zd_in V v2) → wpY_literal (fun r' v' => r' = 0 ∧ i_Rel (k + 5) (nI V, nI (2 ^ V), pf, vals, made, pv) v') (nI V, nI (2 ^ V), vals, res) v1 v2 := by
    intro hn
    have R : (0 : Int32) = 0 ∧ i_Rel (k + 5) (nI V, nI (2 ^ V), pf, vals, made, pv) (nI V, nI (2 ^ V), vals, res) := ⟨rfl, V, pf, vals, made, pv, res, h2, h5, rfl, rfl⟩
    unfold wpY_literal
    dsimp only
    exact zd_gY (fun _ => R) (fun g1 => zd_gVY h5 (fun _ => R) (fun g2 => absurd ⟨g1, g2⟩ hn))
  unfold wpX_literal
  dsimp only
  refine zd_gX (fun hn => bad fun z => hn z.1) (fun g1 => zd_gVX h5 (fun hn => bad fun z => hn z.2) (fun g2 => ?_))
  obtain ⟨d, hd, rfl⟩ := g1
  obtain ⟨w, hw, rfl⟩ := g2
  refine zd_xliteral hd hm (fun made' => ?_)
  unfold wpY_literal
  dsimp only
  exact zd_gY (fun hn => absurd ⟨d, hd, rfl⟩ hn) (fun _ => zd_gVY h5 (fun hn => absurd ⟨w, hw, rfl⟩ hn) (fun _ => zd_yliteral hd hm (fun res' => ⟨rfl, V, pf, _, made', pv, res', h2, h5, rfl, rfl⟩)))
theorem i_vc_apply {k : Nat} {u : SX} {v : SY} (I : i_Rel k u v) (hk : k + 5 ≤ 2561) (v1 : Int32) (v2 : Int32) (v3 : Int32) (v4 : Int32) : wpX_apply (fun r u' => wpY_apply (fun r' v' => r' = r ∧ i_Rel (k + 5) u' v') v v1 v2 v3 v4) u v1 v2 v3 v4 := by
  obtain ⟨V, pf, vals, made, pv, res, h2, h5, rfl, rfl⟩ := I
  have hm := zd_m V h5
  have bad : ¬ (zd_in 8 v1 ∧ zd_in 7 v2 ∧ zd_in 8 v3 ∧ zd_in 8 v4) → wpY_apply (fun r' v' => r' = 0 ∧ i_Rel (k + 5) (nI V, nI (2 ^ V), pf, vals, made, pv) v') (nI V, nI (2 ^ V), vals, res) v1 v2 v3 v4 := by
    intro hn
    have R : (0 : Int32) = 0 ∧ i_Rel (k + 5) (nI V, nI (2 ^ V), pf, vals, made, pv) (nI V, nI (2 ^ V), vals, res) := ⟨rfl, V, pf, vals, made, pv, res, h2, h5, rfl, rfl⟩
    unfold wpY_apply
    dsimp only
    exact zd_gY (fun _ => R) (fun g1 => zd_gY (fun _ => R) (fun g3 => zd_gY (fun _ => R) (fun g4 => zd_gOZ (fun _ => R) (fun g2 => absurd ⟨g1, g2, g3, g4⟩ hn))))
  unfold wpX_apply
  dsimp only
  refine zd_gX (fun hn => bad fun z => hn z.1) (fun g1 => zd_gOX (fun hn => bad fun z => hn z.2.1) (fun g2 => zd_gX (fun hn => bad fun z => hn z.2.2.1) (fun g3 => zd_gX (fun hn => bad fun z => hn z.2.2.2) (fun g4 => ?_))))
  obtain ⟨d, hd, rfl⟩ := g1
  obtain ⟨o, ho, rfl⟩ := g2
  obtain ⟨a, ha, rfl⟩ := g3
  obtain ⟨b, hb, rfl⟩ := g4
  refine zd_xapply hd ha hb ho hm (fun made' => ?_)
  unfold wpY_apply
  dsimp only
  exact zd_gY (fun hn => absurd ⟨d, hd, rfl⟩ hn) (fun _ => zd_gY (fun hn => absurd ⟨a, ha, rfl⟩ hn) (fun _ => zd_gY (fun hn => absurd ⟨b, hb, rfl⟩ hn) (fun _ => zd_gOZ (fun hn => absurd ⟨o, ho, rfl⟩ hn) (fun _ => zd_yapply hd ha hb ho hm (fun res' => ⟨rfl, V, pf, _, made', pv, res', h2, h5, rfl, rfl⟩)))))
theorem i_vc_choose {k : Nat} {u : SX} {v : SY} (I : i_Rel k u v) (hk : k + 5 ≤ 2561) (v1 : Int32) (v2 : Int32) (v3 : Int32) (v4 : Int32) : wpX_choose (fun r u' => wpY_choose (fun r' v' => r' = r ∧ i_Rel (k + 5) u' v') v v1 v2 v3 v4) u v1 v2 v3 v4 := by
  obtain ⟨V, pf, vals, made, pv, res, h2, h5, rfl, rfl⟩ := I
  have hm := zd_m V h5
  have bad : ¬ (zd_in 8 v1 ∧ zd_in 8 v2 ∧ zd_in 8 v3 ∧ zd_in 8 v4) → wpY_choose (fun r' v' => r' = 0 ∧ i_Rel (k + 5) (nI V, nI (2 ^ V), pf, vals, made, pv) v') (nI V, nI (2 ^ V), vals, res) v1 v2 v3 v4 := by
    intro hn
    have R : (0 : Int32) = 0 ∧ i_Rel (k + 5) (nI V, nI (2 ^ V), pf, vals, made, pv) (nI V, nI (2 ^ V), vals, res) := ⟨rfl, V, pf, vals, made, pv, res, h2, h5, rfl, rfl⟩
    unfold wpY_choose
    dsimp only
    exact zd_gY (fun _ => R) (fun g1 => zd_gY (fun _ => R) (fun g2 => zd_gY (fun _ => R) (fun g3 => zd_gY (fun _ => R) (fun g4 => absurd ⟨g1, g2, g3, g4⟩ hn))))
  unfold wpX_choose
  dsimp only
  refine zd_gX (fun hn => bad fun z => hn z.1) (fun g1 => zd_gX (fun hn => bad fun z => hn z.2.1) (fun g2 => zd_gX (fun hn => bad fun z => hn z.2.2.1) (fun g3 => zd_gX (fun hn => bad fun z => hn z.2.2.2) (fun g4 => ?_))))
  obtain ⟨d, hd, rfl⟩ := g1
  obtain ⟨c, hc, rfl⟩ := g2
  obtain ⟨a, ha, rfl⟩ := g3
  obtain ⟨b, hb, rfl⟩ := g4
  refine zd_xchoose hd hc ha hb hm (fun made' => ?_)
  unfold wpY_choose
  dsimp only
  exact zd_gY (fun hn => absurd ⟨d, hd, rfl⟩ hn) (fun _ => zd_gY (fun hn => absurd ⟨c, hc, rfl⟩ hn) (fun _ => zd_gY (fun hn => absurd ⟨a, ha, rfl⟩ hn) (fun _ => zd_gY (fun hn => absurd ⟨b, hb, rfl⟩ hn) (fun _ => zd_ychoose hd hc ha hb hm (fun res' => ⟨rfl, V, pf, _, made', pv, res', h2, h5, rfl, rfl⟩)))))
theorem i_vc_fold {k : Nat} {u : SX} {v : SY} (I : i_Rel k u v) (hk : k + 5 ≤ 2561) (v1 : Int32) (v2 : Int32) (v3 : Int32) (v4 : Int32) : wpX_fold (fun r u' => wpY_fold (fun r' v' => r' = r ∧ i_Rel (k + 5) u' v') v v1 v2 v3 v4) u v1 v2 v3 v4 := by
  obtain ⟨V, pf, vals, made, pv, res, h2, h5, rfl, rfl⟩ := I
  have bad : ¬ (zd_in 8 v1 ∧ zd_in 7 v2 ∧ zd_in 8 v3 ∧ zd_in V v4) → wpY_fold (fun r' v' => r' = 0 ∧ i_Rel (k + 5) (nI V, nI (2 ^ V), pf, vals, made, pv) v') (nI V, nI (2 ^ V), vals, res) v1 v2 v3 v4 := by
    intro hn
    have R : (0 : Int32) = 0 ∧ i_Rel (k + 5) (nI V, nI (2 ^ V), pf, vals, made, pv) (nI V, nI (2 ^ V), vals, res) := ⟨rfl, V, pf, vals, made, pv, res, h2, h5, rfl, rfl⟩
    unfold wpY_fold
    dsimp only
    exact zd_gY (fun _ => R) (fun g1 => zd_gY (fun _ => R) (fun g3 => zd_gOY (fun _ => R) (fun g2 => zd_gVY h5 (fun _ => R) (fun g4 => absurd ⟨g1, g2, g3, g4⟩ hn))))
  unfold wpX_fold
  dsimp only
  refine zd_gX (fun hn => bad fun z => hn z.1) (fun g1 => zd_gOX (fun hn => bad fun z => hn z.2.1) (fun g2 => zd_gX (fun hn => bad fun z => hn z.2.2.1) (fun g3 => zd_gVX h5 (fun hn => bad fun z => hn z.2.2.2) (fun g4 => ?_))))
  obtain ⟨d, hd, rfl⟩ := g1
  obtain ⟨o, ho, rfl⟩ := g2
  obtain ⟨a, ha, rfl⟩ := g3
  obtain ⟨w, hw, rfl⟩ := g4
  refine nm_e (zd_xfold h5 hd ha ho hw (fun made' => ?_))
  unfold wpY_fold
  dsimp only
  exact zd_gY (fun hn => absurd ⟨d, hd, rfl⟩ hn) (fun _ => zd_gY (fun hn => absurd ⟨a, ha, rfl⟩ hn) (fun _ => zd_gOY (fun hn => absurd ⟨o, ho, rfl⟩ hn) (fun _ => zd_gVY h5 (fun hn => absurd ⟨w, hw, rfl⟩ hn) (fun _ => zd_yfold h5 hd ha ho hw (fun res' => ⟨rfl, V, pf, _, made', pv, res', h2, h5, rfl, rfl⟩)))))
theorem i_vc_substitute {k : Nat} {u : SX} {v : SY} (I : i_Rel k u v) (hk : k + 5 ≤ 2561) (v1 : Int32) (v2 : Int32) (v3 : Int32) (v4 : Int32) : wpX_substitute (fun r u' => wpY_substitute (fun r' v' => r' = r ∧ i_Rel (k + 5) u' v') v v1 v2 v3 v4) u v1 v2 v3 v4 := by
  obtain ⟨V, pf, vals, made, pv, res, h2, h5, rfl, rfl⟩ := I
  have bad : ¬ (zd_in 8 v1 ∧ zd_in 8 v2 ∧ zd_in V v3 ∧ zd_in 8 v4) → wpY_substitute (fun r' v' => r' = 0 ∧ i_Rel (k + 5) (nI V, nI (2 ^ V), pf, vals, made, pv) v') (nI V, nI (2 ^ V), vals, res) v1 v2 v3 v4 := by
    intro hn
    have R : (0 : Int32) = 0 ∧ i_Rel (k + 5) (nI V, nI (2 ^ V), pf, vals, made, pv) (nI V, nI (2 ^ V), vals, res) := ⟨rfl, V, pf, vals, made, pv, res, h2, h5, rfl, rfl⟩
    unfold wpY_substitute
    dsimp only
    exact zd_gY (fun _ => R) (fun g1 => zd_gY (fun _ => R) (fun g2 => zd_gY (fun _ => R) (fun g4 => zd_gVY h5 (fun _ => R) (fun g3 => absurd ⟨g1, g2, g3, g4⟩ hn))))
  unfold wpX_substitute
  dsimp only
  refine zd_gX (fun hn => bad fun z => hn z.1) (fun g1 => zd_gX (fun hn => bad fun z => hn z.2.1) (fun g2 => zd_gVX h5 (fun hn => bad fun z => hn z.2.2.1) (fun g3 => zd_gX (fun hn => bad fun z => hn z.2.2.2) (fun g4 => ?_))))
  obtain ⟨d, hd, rfl⟩ := g1
  obtain ⟨a, ha, rfl⟩ := g2
  obtain ⟨w, hw, rfl⟩ := g3
  obtain ⟨b, hb, rfl⟩ := g4
  refine nm_e (zd_xsubstitute h5 hd ha hb hw (fun made' => ?_))
  unfold wpY_substitute
  dsimp only
  exact zd_gY (fun hn => absurd ⟨d, hd, rfl⟩ hn) (fun _ => zd_gY (fun hn => absurd ⟨a, ha, rfl⟩ hn) (fun _ => zd_gY (fun hn => absurd ⟨b, hb, rfl⟩ hn) (fun _ => zd_gVY h5 (fun hn => absurd ⟨w, hw, rfl⟩ hn) (fun _ => zd_ysubstitute h5 hd ha hb hw (fun res' => ⟨rfl, V, pf, _, made', pv, res', h2, h5, rfl, rfl⟩)))))
theorem i_vc_exchange {k : Nat} {u : SX} {v : SY} (I : i_Rel k u v) (hk : k + 5 ≤ 2561) (v1 : Int32) (v2 : Int32) (v3 : Int32) (v4 : Int32) : wpX_exchange (fun r u' => wpY_exchange (fun r' v' => r' = r ∧ i_Rel (k + 5) u' v') v v1 v2 v3 v4) u v1 v2 v3 v4 := by
  obtain ⟨V, pf, vals, made, pv, res, h2, h5, rfl, rfl⟩ := I
  have bad : ¬ (zd_in 8 v1 ∧ zd_in 8 v2 ∧ zd_in V v3 ∧ zd_in V v4) → wpY_exchange (fun r' v' => r' = 0 ∧ i_Rel (k + 5) (nI V, nI (2 ^ V), pf, vals, made, pv) v') (nI V, nI (2 ^ V), vals, res) v1 v2 v3 v4 := by
    intro hn
    have R : (0 : Int32) = 0 ∧ i_Rel (k + 5) (nI V, nI (2 ^ V), pf, vals, made, pv) (nI V, nI (2 ^ V), vals, res) := ⟨rfl, V, pf, vals, made, pv, res, h2, h5, rfl, rfl⟩
    unfold wpY_exchange
    dsimp only
    exact zd_gY (fun _ => R) (fun g1 => zd_gY (fun _ => R) (fun g2 => zd_gVY h5 (fun _ => R) (fun g3 => zd_gVY h5 (fun _ => R) (fun g4 => absurd ⟨g1, g2, g3, g4⟩ hn))))
  unfold wpX_exchange
  dsimp only
  refine zd_gX (fun hn => bad fun z => hn z.1) (fun g1 => zd_gX (fun hn => bad fun z => hn z.2.1) (fun g2 => zd_gVX h5 (fun hn => bad fun z => hn z.2.2.1) (fun g3 => zd_gVX h5 (fun hn => bad fun z => hn z.2.2.2) (fun g4 => ?_))))
  obtain ⟨d, hd, rfl⟩ := g1
  obtain ⟨a, ha, rfl⟩ := g2
  obtain ⟨w, hw, rfl⟩ := g3
  obtain ⟨x, hx, rfl⟩ := g4
  refine zd_xexchange h5 hd ha hw hx (fun made' => ?_)
  unfold wpY_exchange
  dsimp only
  exact zd_gY (fun hn => absurd ⟨d, hd, rfl⟩ hn) (fun _ => zd_gY (fun hn => absurd ⟨a, ha, rfl⟩ hn) (fun _ => zd_gVY h5 (fun hn => absurd ⟨w, hw, rfl⟩ hn) (fun _ => zd_gVY h5 (fun hn => absurd ⟨x, hx, rfl⟩ hn) (fun _ => zd_yexchange h5 hd ha hw hx (fun res' => ⟨rfl, V, pf, _, made', pv, res', h2, h5, rfl, rfl⟩)))))
end
end
