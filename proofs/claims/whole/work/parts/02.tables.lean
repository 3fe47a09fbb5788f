/-! bits: what the two sides reckon of x and v, by closed tables -/
def zd_cl (x v : Nat) : Nat := (nI x &&& (((1 : Int32) <<< (nI v &&& 31)) ^^^ (-1))).toNatClampNeg
def zd_se (x v : Nat) : Nat := (nI x ||| ((1 : Int32) <<< (nI v &&& 31))).toNatClampNeg
def zd_fl (x v : Nat) : Nat := (nI x ^^^ ((1 : Int32) <<< (nI v &&& 31))).toNatClampNeg
theorem zd_tcl : ∀ V, V < 6 → ∀ x, x < 2 ^ V → ∀ v, v < V → nI x &&& (((1 : Int32) <<< (nI v &&& 31)) ^^^ (-1)) = nI (zd_cl x v) ∧ zd_cl x v < 2 ^ V := by decide +kernel
theorem zd_tse : ∀ V, V < 6 → ∀ x, x < 2 ^ V → ∀ v, v < V → nI x ||| ((1 : Int32) <<< (nI v &&& 31)) = nI (zd_se x v) ∧ zd_se x v < 2 ^ V := by decide +kernel
theorem zd_tfl : ∀ V, V < 6 → ∀ x, x < 2 ^ V → ∀ v, v < V → nI x ^^^ ((1 : Int32) <<< (nI v &&& 31)) = nI (zd_fl x v) ∧ zd_fl x v < 2 ^ V := by decide +kernel
def zd_bi (x v : Nat) : Int32 := (nI x >>> (nI v &&& 31)) &&& 1
def zd_ex (x u v : Nat) : Nat := if zd_bi x u = zd_bi x v then x else ((nI x ^^^ ((1 : Int32) <<< (nI u &&& 31))) ^^^ ((1 : Int32) <<< (nI v &&& 31))).toNatClampNeg
def zd_wi (p q r : Int32) : Int32 := if r = 1 then p ||| ((1 : Int32) <<< (q &&& 31)) else p &&& (((1 : Int32) <<< (q &&& 31)) ^^^ (-1))
theorem zd_tex0 : ∀ V, V < 6 → ∀ x, x < 2 ^ V → ∀ u, u < V → ∀ v, v < V → zd_ex x u v < 2 ^ V := by decide +kernel
theorem zd_tex1 : ∀ V, V < 6 → ∀ x, x < 2 ^ V → ∀ u, u < V → ∀ v, v < V → zd_bi x u = zd_bi x v ∨ (nI x ^^^ ((1 : Int32) <<< (nI u &&& 31))) ^^^ ((1 : Int32) <<< (nI v &&& 31)) = nI (zd_ex x u v) := by decide +kernel
theorem zd_tex2 : ∀ V, V < 6 → ∀ x, x < 2 ^ V → ∀ u, u < V → ∀ v, v < V → zd_wi (zd_wi (nI x) (nI u) (zd_bi x v)) (nI v) (zd_bi x u) = nI (zd_ex x u v) := by decide +kernel
theorem zd_with {post : Int32 → Prop} {a b : Int32} {va re : Nat → Int32} {p q r : Int32} (h : post (zd_wi p q r)) : wpY_with post (a, b, va, re) p q r := by
  by_cases e : r = 1
  · refine br_t e ?_
    unfold zd_wi at h
    rw [if_pos e] at h
    exact h
  · refine br_f e ?_
    unfold zd_wi at h
    rw [if_neg e] at h
    exact h
theorem zd_bit {post : Int32 → Prop} {a b : Int32} {va re : Nat → Int32} {p q : Int32} (h : post ((p >>> (q &&& 31)) &&& 1)) : wpY_bit post (a, b, va, re) p q := h
theorem zd_wex {post : Int32 → Prop} {V x u v : Nat} (hV : V < 6) (hx : x < 2 ^ V) (hu : u < V) (hv : v < V) (h : post (nI (zd_ex x u v))) : wpX_withExchanged post (nI x) (nI u) (nI v) := by
  refine nm_e (nm_e ?_)
  by_cases e : zd_bi x u = zd_bi x v
  · refine br_t e ?_
    unfold zd_ex at h
    rw [if_pos e] at h
    exact h
  · refine br_f e ?_
    rw [(zd_tex1 V hV x hx u hu v hv).resolve_left e]
    exact h
/-! the seven operations -/
def zd_op (o : Nat) (p q : Int32) : Int32 := match o with
  | 0 => p + q
  | 1 => p - q
  | 2 => p * q
  | 3 => if q ≤ p then q else p
  | 4 => if p ≤ q then q else p
  | 5 => if q ≤ p then 0 else 1
  | _ => if p = q then 1 else 0
theorem zd_if {c : Prop} {post : Int32 → Prop} (d : Decidable c) {a b : Int32} (h : post (@ite Int32 c d a b)) : (c → post a) ∧ (¬ c → post b) := by
  by_cases e : c
  · rw [if_pos e] at h
    exact br_t e h
  · rw [if_neg e] at h
    exact br_f e h
theorem zd_comb {post : Int32 → Prop} {o : Nat} {p q : Int32} (ho : o < 7) (h : post (zd_op o p q)) : wpX_combine post (nI o) p q := by
  obtain rfl | rfl | rfl | rfl | rfl | rfl | rfl : o = 0 ∨ o = 1 ∨ o = 2 ∨ o = 3 ∨ o = 4 ∨ o = 5 ∨ o = 6 := by omega
  · exact br_f (by decide) (br_f (by decide) (br_t (by decide) h))
  · exact br_f (by decide) (br_f (by decide) (br_f (by decide) (br_t (by decide) h)))
  · exact br_f (by decide) (br_f (by decide) (br_f (by decide) (br_f (by decide) (br_t (by decide) h))))
  · exact br_f (by decide) (br_f (by decide) (br_f (by decide) (br_f (by decide) (br_f (by decide) (br_t (by decide) (zd_if _ h))))))
  · exact br_f (by decide) (br_f (by decide) (br_f (by decide) (br_f (by decide) (br_f (by decide) (br_f (by decide) (br_t (by decide) (zd_if _ h)))))))
  · exact br_f (by decide) (br_f (by decide) (br_f (by decide) (br_f (by decide) (br_f (by decide) (br_f (by decide) (br_f (by decide) (br_t (by decide) (zd_if _ h))))))))
  · exact br_f (by decide) (br_t (by decide) (zd_if _ h))
theorem zd_oper {post : Int32 → Prop} {o : Nat} {p q a b : Int32} {va re : Nat → Int32} (ho : o < 7) (h : post (zd_op o p q)) : wpY_op post (a, b, va, re) (nI o) p q := by
  obtain rfl | rfl | rfl | rfl | rfl | rfl | rfl : o = 0 ∨ o = 1 ∨ o = 2 ∨ o = 3 ∨ o = 4 ∨ o = 5 ∨ o = 6 := by omega
  · exact br_t (by decide) h
  · exact br_f (by decide) (br_t (by decide) h)
  · exact br_f (by decide) (br_f (by decide) (br_t (by decide) h))
  · exact br_f (by decide) (br_f (by decide) (br_f (by decide) (br_t (by decide) (zd_if _ h))))
  · exact br_f (by decide) (br_f (by decide) (br_f (by decide) (br_f (by decide) (br_t (by decide) (zd_if _ h)))))
  · exact br_f (by decide) (br_f (by decide) (br_f (by decide) (br_f (by decide) (br_f (by decide) (br_t (by decide) (zd_if _ h))))))
  · exact br_f (by decide) (br_f (by decide) (br_f (by decide) (br_f (by decide) (br_f (by decide) (br_f (by decide) (zd_if _ h))))))
