/-! every method's words: its own code and the law's words -/
abbrev wb (y : MethodName) (c : ByteArray) (n : Nat) (r : Option FieldType) : List Cond := Cond.code y c n r :: wsL_law
theorem big_good : wsL_law.all goodWord = true := by decide +kernel
theorem gb_mem {w cm : Cond} (h : w ∈ wsL_law) : w ∈ cm :: wsL_law ∧ ((w.onTables && w.keeps) = true ∨ ∃ ty, w = .arrayClass ty) := ⟨List.mem_cons_of_mem _ h, good_of_word (List.all_eq_true.mp big_good w h)⟩
theorem gb_lmem {w : Cond} (h : w ∈ wsL_law) : w ∈ wsL_law ∧ ((w.onTables && w.keeps) = true ∨ ∃ ty, w = .arrayClass ty) := ⟨h, good_of_word (List.all_eq_true.mp big_good w h)⟩
theorem gb_sub {a : List Cond} {cy : Cond} (h : ∀ w ∈ a, w ∈ wsL_law) (hc : cy ∈ wsL_law) : ∀ w ∈ a ++ (cy :: wsL_law), w ∈ wsL_law := by
  intro w hw
  rcases List.mem_append.mp hw with hw | hw
  · exact h w hw
  · rcases List.mem_cons.mp hw with rfl | hw
    · exact hc
    · exact hw
theorem gb_3 {a b c : Cond} (h1 : a ∈ wsL_law) (h2 : b ∈ wsL_law) (h3 : c ∈ wsL_law) : ∀ w ∈ [a, b, c], w ∈ wsL_law := by
  intro w hw
  simp only [List.mem_cons, List.not_mem_nil, or_false] at hw
  rcases hw with rfl | rfl | rfl <;> assumption
theorem gb_4 {a b c d : Cond} (h1 : a ∈ wsL_law) (h2 : b ∈ wsL_law) (h3 : c ∈ wsL_law) (h4 : d ∈ wsL_law) : ∀ w ∈ [a, b, c, d], w ∈ wsL_law := by
  intro w hw
  simp only [List.mem_cons, List.not_mem_nil, or_false] at hw
  rcases hw with rfl | rfl | rfl | rfl <;> assumption
section GB
variable {cm : Cond} {own C : String} {idx n : Nat} {y : MethodName} {c : ByteArray} {r : Option FieldType}
theorem gbC (hc : Cond.code y c n r ∈ wsL_law) : GoodIn (cm :: wsL_law) (wb y c n r) := fun w h => gb_mem (gb_sub (a := []) (fun _ q => absurd q List.not_mem_nil) hc w h)
theorem gbS (h1 : Cond.methodLink own idx y ∈ wsL_law) (h2 : Cond.static y ∈ wsL_law) (h3 : Cond.initialized y.cls ∈ wsL_law) (hc : Cond.code y c n r ∈ wsL_law) : GoodIn (cm :: wsL_law) (va_wsS own idx y (wb y c n r)) := fun w h => gb_mem (gb_sub (gb_3 h1 h2 h3) hc w h)
theorem gbV (h1 : Cond.methodLink own idx y ∈ wsL_law) (h2 : Cond.instanceMethod y ∈ wsL_law) (h3 : Cond.selects C y y ∈ wsL_law) (h4 : Cond.initialized C ∈ wsL_law) (hc : Cond.code y c n r ∈ wsL_law) : GoodIn (cm :: wsL_law) (wsV own idx C y (wb y c n r)) := fun w h => gb_mem (gb_sub (gb_4 h1 h2 h3 h4) hc w h)
theorem gbC.law (hc : Cond.code y c n r ∈ wsL_law) : GoodIn wsL_law (wb y c n r) := fun w h => gb_lmem (gb_sub (a := []) (fun _ q => absurd q List.not_mem_nil) hc w h)
theorem gbS.law (h1 : Cond.methodLink own idx y ∈ wsL_law) (h2 : Cond.static y ∈ wsL_law) (h3 : Cond.initialized y.cls ∈ wsL_law) (hc : Cond.code y c n r ∈ wsL_law) : GoodIn wsL_law (va_wsS own idx y (wb y c n r)) := fun w h => gb_lmem (gb_sub (gb_3 h1 h2 h3) hc w h)
theorem gbV.law (h1 : Cond.methodLink own idx y ∈ wsL_law) (h2 : Cond.instanceMethod y ∈ wsL_law) (h3 : Cond.selects C y y ∈ wsL_law) (h4 : Cond.initialized C ∈ wsL_law) (hc : Cond.code y c n r ∈ wsL_law) : GoodIn wsL_law (wsV own idx C y (wb y c n r)) := fun w h => gb_lmem (gb_sub (gb_4 h1 h2 h3 h4) hc w h)
end GB
/-! whole numbers: an int of the machine is i3 of a whole number; what is in range is one number -/
abbrev inR (x : Int) : Prop := -2147483648 ≤ x ∧ x ≤ 2147483647
def i3 (x : Int) : Int32 := Int32.ofInt x
theorem i3_0 : i3 0 = 0 := by decide +kernel
theorem i3_1 : i3 1 = 1 := by decide +kernel
theorem i3_add (a b : Int) : i3 a + i3 b = i3 (a + b) := (Int32.ofInt_add a b).symm
theorem i3_sub (a b : Int) : i3 a - i3 b = i3 (a - b) := (Int32.ofInt_sub a b).symm
theorem i3_mul (a b : Int) : i3 a * i3 b = i3 (a * b) := (Int32.ofInt_mul a b).symm
theorem i3_neg (a : Int) : - i3 a = i3 (-a) := (Int32.ofInt_neg a).symm
theorem i3_toInt {a : Int} (h : inR a) : (i3 a).toInt = a := Int32.toInt_ofInt_of_le (by have := h.1; omega) (by have := h.2; omega)
theorem i3_of (x : Int32) : i3 x.toInt = x := Int32.ofInt_toInt x
theorem inR_toInt (x : Int32) : inR x.toInt := by
  have h1 := Int32.le_toInt x
  have h2 := Int32.toInt_lt x
  constructor <;> omega
theorem i3_le {a b : Int} (ha : inR a) (hb : inR b) : i3 a ≤ i3 b ↔ a ≤ b := by rw [Int32.le_iff_toInt_le, i3_toInt ha, i3_toInt hb]
theorem i3_lt {a b : Int} (ha : inR a) (hb : inR b) : i3 a < i3 b ↔ a < b := by rw [Int32.lt_iff_toInt_lt, i3_toInt ha, i3_toInt hb]
theorem i3_eq {a b : Int} (ha : inR a) (hb : inR b) : i3 a = i3 b ↔ a = b := by
  constructor
  · intro h
    have h2 := congrArg Int32.toInt h
    rwa [i3_toInt ha, i3_toInt hb] at h2
  · intro h; rw [h]
theorem i3_nat (n : Nat) : Int32.ofNat n = i3 (n : Int) := (Int32.ofInt_eq_ofNat).symm
theorem inR_0 : inR 0 := by decide
theorem inR_div {a b : Int} (ha : inR a) (h0 : 0 ≤ a) (h1 : 0 < b) : inR (a / b) := by
  have h2 : 0 ≤ a / b := Int.ediv_nonneg h0 (by omega)
  have h3 : a / b ≤ a := Int.ediv_le_self b h0
  have := ha.2
  constructor <;> omega
theorem inR_mod {a b : Int} (hb : inR b) (h1 : 0 < b) : inR (a % b) := by
  have h2 := Int.emod_nonneg a (by omega : b ≠ 0)
  have h3 := Int.emod_lt_of_pos a h1
  have := hb.2
  constructor <;> omega
theorem i3_ne_m1 {b : Int} (hb : inR b) (h1 : 0 < b) : i3 b ≠ -1 := by
  intro h
  have h2 := congrArg Int32.toInt h
  rw [i3_toInt hb] at h2
  have h3 : (-1 : Int32).toInt = -1 := by decide +kernel
  omega
theorem i3_ne_0 {b : Int} (hb : inR b) (h1 : 0 < b) : ¬ i3 b = 0 := by
  intro h
  rw [← i3_0, i3_eq hb inR_0] at h
  omega
theorem i3_div {a b : Int} (ha : inR a) (hb : inR b) (h0 : 0 ≤ a) (h1 : 0 < b) : i3 a / i3 b = i3 (a / b) := by
  apply Int32.toInt_inj.1
  rw [Int32.toInt_div_of_ne_right _ _ (i3_ne_m1 hb h1), i3_toInt ha, i3_toInt hb, i3_toInt (inR_div ha h0 h1), Int.tdiv_eq_ediv_of_nonneg h0]
theorem i3_rem {a b : Int} (ha : inR a) (hb : inR b) (h0 : 0 ≤ a) (h1 : 0 < b) : i3 a - i3 a / i3 b * i3 b = i3 (a % b) := by
  rw [i3_div ha hb h0 h1, i3_mul, i3_sub, Int.emod_def, Int.mul_comm]
theorem i3_clamp {a : Int} (h : inR a) : (i3 a).toNatClampNeg = a.toNat := by
  show (i3 a).toInt.toNat = a.toNat
  rw [i3_toInt h]
theorem i3_in {a : Int} {n : Nat} (h : inR a) (h0 : 0 ≤ a) (h1 : a < n) : vp_in (i3 a) n := by
  intro q
  rcases q with q | q
  · rw [← i3_0, i3_lt h inR_0] at q; omega
  · rw [i3_clamp h] at q; omega
def andI (a b : Int) : Int := (i3 a &&& i3 b).toInt
def orI (a b : Int) : Int := (i3 a ||| i3 b).toInt
def shlI (a b : Int) : Int := (i3 a <<< (i3 b &&& 31)).toInt
def shrI (a b : Int) : Int := (i3 a >>> (i3 b &&& 31)).toInt
def ushrI (a b : Int) : Int := ((i3 a).toUInt32 >>> ((i3 b).toUInt32 &&& Int32.toUInt32 31)).toInt32.toInt
/-! guards, what comes next, loops -/
def gd {α : Type} (x : Int) (k : Option α) : Option α := if -2147483648 ≤ x ∧ x ≤ 2147483647 then k else none
theorem gd_el {α : Type} {x : Int} {k : Option α} {r : α} (h : gd x k = some r) : inR x ∧ k = some r := by
  unfold gd at h
  by_cases c : -2147483648 ≤ x ∧ x ≤ 2147483647
  · rw [if_pos c] at h; exact ⟨c, h⟩
  · rw [if_neg c] at h; cases h
theorem gd_ok {α : Type} {x : Int} {k : Option α} (h : -2147483648 ≤ x ∧ x ≤ 2147483647) : gd x k = k := if_pos h
/-- a divisor above 0 and a number that is not below 0 -/
def gq {α : Type} (x y : Int) (k : Option α) : Option α := if 0 ≤ x ∧ 0 < y then k else none
theorem gq_el {α : Type} {x y : Int} {k : Option α} {r : α} (h : gq x y k = some r) : (0 ≤ x ∧ 0 < y) ∧ k = some r := by
  unfold gq at h
  by_cases c : 0 ≤ x ∧ 0 < y
  · rw [if_pos c] at h; exact ⟨c, h⟩
  · rw [if_neg c] at h; cases h
theorem gq_ok {α : Type} {x y : Int} {k : Option α} (h : 0 ≤ x ∧ 0 < y) : gq x y k = k := if_pos h
/-- an index x of a row of n -/
def gx {α : Type} (x : Int) (n : Int) (k : Option α) : Option α := if 0 ≤ x ∧ x < n then k else none
theorem gx_el {α : Type} {x n : Int} {k : Option α} {r : α} (h : gx x n k = some r) : (0 ≤ x ∧ x < n) ∧ k = some r := by
  unfold gx at h
  by_cases c : 0 ≤ x ∧ x < n
  · rw [if_pos c] at h; exact ⟨c, h⟩
  · rw [if_neg c] at h; cases h
theorem gx_ok {α : Type} {x n : Int} {k : Option α} (h : 0 ≤ x ∧ x < n) : gx x n k = k := if_pos h
/-- a truth value -/
def gz {α : Type} (x : Int) (k : Option α) : Option α := if x = 0 ∨ x = 1 then k else none
theorem gz_el {α : Type} {x : Int} {k : Option α} {r : α} (h : gz x k = some r) : (x = 0 ∨ x = 1) ∧ k = some r := by
  unfold gz at h
  by_cases c : x = 0 ∨ x = 1
  · rw [if_pos c] at h; exact ⟨c, h⟩
  · rw [if_neg c] at h; cases h
theorem gz_ok {α : Type} {x : Int} {k : Option α} (h : x = 0 ∨ x = 1) : gz x k = k := if_pos h
theorem bind_el {α β : Type} {x : Option α} {g : α → Option β} {y : β} (h : x.bind g = some y) : ∃ a, x = some a ∧ g a = some y := by
  cases x with
  | none => cases h
  | some a => exact ⟨a, rfl, h⟩
theorem some_el {α : Type} {x y : α} (h : some x = some y) : x = y := Option.some.inj h
def loopN {σ ρ : Type} (f : σ → Option (σ ⊕ ρ)) : Nat → σ → Option ρ
  | 0, _ => none
  | n + 1, s => (f s).bind fun x => match x with
    | .inl s' => loopN f n s'
    | .inr r => some r
theorem loop_rule {σ ρ : Type} (f : σ → Option (σ ⊕ ρ)) (At : σ → Prop) (Ex : ρ → Prop) (h : ∀ s x, f s = some x → (match x with | .inl s' => At s' | .inr r => Ex r) → At s) : ∀ (n : Nat) (s : σ) (r : ρ), loopN f n s = some r → Ex r → At s := by
  intro n
  induction n with
  | zero => intro s r h1; cases h1
  | succ n ih =>
    intro s r h1 h2
    obtain ⟨x, hx, h3⟩ := bind_el h1
    refine h s x hx ?_
    cases x with
    | inl s' => exact ih s' r h3 h2
    | inr r' => cases h3; exact h2
/-- what the rows and numbers hold, by object and place -/
abbrev MemG : Type := Nat → Nat → Int
def up (M : MemG) (a j : Nat) (v : Int) : MemG := fun b i => if b = a ∧ i = j then v else M b i
theorem up_other {M : MemG} {a j b : Nat} {v : Int} (h : b ≠ a) : up M a j v b = M b := by funext i; simp [up, h]
def lenA (a : Nat) : Nat := if a < 82 then (if (a - 16) % 6 < 3 then 32 else if (a - 16) % 6 < 5 then 33 else 16) else if a = 82 then 60 else if a = 83 then 40 else if a = 84 then 39 else 33
theorem lenA_le (a : Nat) : lenA a ≤ 60 := by unfold lenA; repeat' split
                                              all_goals decide
/-- what does not change: classes, addresses, the script -/
abbrev gG : Type := va_G × (ClassId × (ClassId × ((Nat → Nat) × ((Nat → Int) × (Nat × (Nat → Prop))))))
def gA (G : gG) (i : Nat) : Nat := G.2.2.2.1 i
def gXs (G : gG) : Nat → Int := G.2.2.2.2.1
def gL (G : gG) : Nat := G.2.2.2.2.2.1
/-- the addresses that may be written: the pool's among them -/
def PA (G : gG) : Nat → Prop := G.2.2.2.2.2.2
/-- the pool's row of an object -/
def entF (G : gG) (f : Nat → Int) (i : Nat) : va_E :=
  if 16 ≤ i then .inl (G.2.1, lenA i, .inl (fun j => i3 (f j)))
  else if 5 ≤ i then .inr (3, [.ref (gA G (16 + 6 * (i - 5))), .ref (gA G (16 + 6 * (i - 5) + 1)), .ref (gA G (16 + 6 * (i - 5) + 2)), .ref (gA G (16 + 6 * (i - 5) + 3)), .ref (gA G (16 + 6 * (i - 5) + 4)), .ref (gA G (16 + 6 * (i - 5) + 5))])
  else if i = 0 then .inr (4, [.ref (gA G 5), .ref (gA G 6), .ref (gA G 7), .int (i3 (f 3)), .ref (gA G 1), .ref (gA G 2), .ref (gA G 3), .int (i3 (f 7)), .int (i3 (f 8)), .ref (gA G 85)])
  else if i = 1 then .inr (2, [.ref (gA G 4), .int (i3 (f 1)), .int (i3 (f 2))])
  else if i = 2 then .inr (0, [.ref (gA G 82), .int (i3 (f 1)), .ref (gA G 83), .int (i3 (f 3)), .int (i3 (f 4)), .int (i3 (f 5))])
  else if i = 3 then .inr (1, [.ref (gA G 84), .int (i3 (f 1))])
  else .inl (G.2.2.1, 8, .inr (.inr (.inr (.inr (fun j => some (gA G (5 + (3 + j))))))))
def pW (G : gG) (M : MemG) : va_W := (List.range 86).map fun i => (gA G i, entF G (M i) i)
theorem pW_get (G : gG) (M : MemG) {i : Nat} (h : i < 86) : (pW G M)[i]? = some (gA G i, entF G (M i) i) := by
  unfold pW
  rw [List.getElem?_map, List.getElem?_range h]
  rfl
theorem pW_some {G : gG} {M : MemG} {i : Nat} {q : Nat × va_E} (h : (pW G M)[i]? = some q) : i < 86 ∧ q = (gA G i, entF G (M i) i) := by
  by_cases hi : i < 86
  · rw [pW_get G M hi] at h
    exact ⟨hi, (Option.some.inj h).symm⟩
  · unfold pW at h
    rw [List.getElem?_eq_none (by simp; omega)] at h
    cases h
theorem pW_set {G : gG} {M M' : MemG} {i : Nat} {e : va_E} (h : i < 86) (he : entF G (M' i) i = e) (ho : ∀ j, j ≠ i → M' j = M j) : (pW G M).set i (gA G i, e) = pW G M' := by
  apply List.ext_getElem?
  intro j
  rw [List.getElem?_set]
  by_cases hj : i = j
  · subst hj
    rw [if_pos rfl, if_pos (by unfold pW; simp; exact h), pW_get G M' h, he]
  · rw [if_neg hj]
    by_cases h6 : j < 86
    · rw [pW_get G M h6, pW_get G M' h6, ho j (fun q => hj q.symm)]
    · rw [List.getElem?_eq_none (by unfold pW; simp; omega), List.getElem?_eq_none (by unfold pW; simp; omega)]
def inj86 (G : gG) : Prop := (∀ i j, i < 86 → j < 86 → gA G i = gA G j → i = j) ∧ ∀ i, i < 86 → PA G (gA G i)
theorem pW_D {G : gG} (h : inj86 G) (M : MemG) : va_D (PA G) (pW G M) := by
  refine ⟨fun i j p q hp hq e => ?_, fun k q hq => ?_⟩
  · obtain ⟨h1, rfl⟩ := pW_some hp
    obtain ⟨h2, rfl⟩ := pW_some hq
    exact h.1 i j h1 h2 e
  · obtain ⟨h1, rfl⟩ := pW_some hq
    exact h.2 k h1
def tabS (a : Nat) (j : Nat) : Int := if a = 86 then ([20, 15, 10, 12] : List Int).getD j 0 else ([119, 114, 111, 98] : List Int).getD j 0
/-- the texts: 0 to 6 the patterns of commands, 7 to 25 the law's own: their characters -/
def txI : List (List Int) := [[115, 116, 111, 114, 101, 32, 50, 32, 63, 32, 51], [116, 97, 107, 101, 32, 50, 32, 51], [109, 111, 118, 101, 32, 50, 62, 50, 32, 51], [111, 114, 100, 101, 114, 32, 63, 32, 51], [102, 105, 120, 32, 50], [112, 97, 115, 115, 32, 50], [], [115, 116, 111, 114, 101, 32, 48, 32, 119, 32, 53, 48], [115, 116, 111, 114, 101, 32, 51, 49, 32, 98, 32, 50, 48, 48], [115, 116, 111, 114, 101, 32, 55, 32, 114, 32, 48, 48, 49, 59, 115, 116, 111, 114, 101, 32, 55, 32, 111, 32, 49], [116, 97, 107, 101, 32, 48, 32, 49], [116, 97, 107, 101, 32, 57, 32, 50, 48, 48], [109, 111, 118, 101, 32, 48, 62, 49, 32, 53], [109, 111, 118, 101, 32, 49, 62, 49, 32, 49], [109, 111, 118, 101, 32, 51, 62, 48, 52, 32, 49, 48, 48, 59, 116, 97, 107, 101, 32, 52, 32, 49, 48, 48], [111, 114, 100, 101, 114, 32, 119, 32, 49], [111, 114, 100, 101, 114, 32, 98, 32, 57, 57, 57], [111, 114, 100, 101, 114, 32, 114, 32, 49, 48, 59, 111, 114, 100, 101, 114, 32, 114, 32, 49, 48], [102, 105, 120, 32, 49], [102, 105, 120, 32, 51, 50], [102, 105, 120, 32, 51, 51], [112, 97, 115, 115, 32, 49], [112, 97, 115, 115, 32, 51, 48], [112, 97, 115, 115, 32, 48], [115, 116, 111, 114, 101, 32, 48, 32, 119, 32, 48], [115, 116, 111, 114, 101, 32, 50, 32, 119, 32, 50, 48, 48, 59, 115, 116, 111, 114, 101, 32, 50, 32, 119, 32, 49]]
def txL : List Nat := [11, 8, 10, 9, 5, 6, 0, 12, 14, 25, 8, 10, 10, 10, 24, 9, 11, 21, 5, 6, 6, 6, 7, 6, 11, 25]
def txB : List (List Int32) := [[115, 116, 111, 114, 101, 32, 50, 32, 63, 32, 51], [116, 97, 107, 101, 32, 50, 32, 51], [109, 111, 118, 101, 32, 50, 62, 50, 32, 51], [111, 114, 100, 101, 114, 32, 63, 32, 51], [102, 105, 120, 32, 50], [112, 97, 115, 115, 32, 50], [], [115, 116, 111, 114, 101, 32, 48, 32, 119, 32, 53, 48], [115, 116, 111, 114, 101, 32, 51, 49, 32, 98, 32, 50, 48, 48], [115, 116, 111, 114, 101, 32, 55, 32, 114, 32, 48, 48, 49, 59, 115, 116, 111, 114, 101, 32, 55, 32, 111, 32, 49], [116, 97, 107, 101, 32, 48, 32, 49], [116, 97, 107, 101, 32, 57, 32, 50, 48, 48], [109, 111, 118, 101, 32, 48, 62, 49, 32, 53], [109, 111, 118, 101, 32, 49, 62, 49, 32, 49], [109, 111, 118, 101, 32, 51, 62, 48, 52, 32, 49, 48, 48, 59, 116, 97, 107, 101, 32, 52, 32, 49, 48, 48], [111, 114, 100, 101, 114, 32, 119, 32, 49], [111, 114, 100, 101, 114, 32, 98, 32, 57, 57, 57], [111, 114, 100, 101, 114, 32, 114, 32, 49, 48, 59, 111, 114, 100, 101, 114, 32, 114, 32, 49, 48], [102, 105, 120, 32, 49], [102, 105, 120, 32, 51, 50], [102, 105, 120, 32, 51, 51], [112, 97, 115, 115, 32, 49], [112, 97, 115, 115, 32, 51, 48], [112, 97, 115, 115, 32, 48], [115, 116, 111, 114, 101, 32, 48, 32, 119, 32, 48], [115, 116, 111, 114, 101, 32, 50, 32, 119, 32, 50, 48, 48, 59, 115, 116, 111, 114, 101, 32, 50, 32, 119, 32, 49]]
def lenS (i : Nat) : Nat := txL.getD i 0
def chS (i j : Nat) : Int := (txI.getD i []).getD j 0
/-! the world: the pool, the classes, what is given and stays -/
def rngM (M : MemG) : Prop := ∀ i j, inR (M i j)
theorem rngM_up {M : MemG} (h : rngM M) {a j : Nat} {v : Int} (hv : inR v) : rngM (up M a j v) := by
  intro b i
  unfold up
  by_cases c : b = a ∧ i = j
  · rw [if_pos c]; exact hv
  · rw [if_neg c]; exact h b i
def vkR7 (G : gG) (U : State) : Prop := vk_R RX0 72 "store 2 ? 3" (gA G 100) U ∧ vk_R RX0 74 "take 2 3" (gA G 101) U ∧ vk_R RX0 76 "move 2>2 3" (gA G 102) U ∧ vk_R RX0 78 "order ? 3" (gA G 103) U ∧ vk_R RX0 80 "fix 2" (gA G 104) U ∧ vk_R RX0 82 "pass 2" (gA G 105) U ∧ vk_R RX0 84 "" (gA G 106) U
def nwL : List Cond := [.methodLinkNest RX3 30 yX4_copyRow RX4, .methodLinkNest RX3 34 yX4_at RX4, .methodLinkNest RX3 38 yX4_put RX4, .methodLinkNest RX3 54 yX4_sizeOf RX4, .methodLinkNest RX3 63 yX4_loadOf RX4, .fieldLinkNest RX3 86 RX4 "WEEKS_KEPT" "[I" RX4, .methodLinkNest RX0 35 yX4_at RX4, .methodLinkNest RX0 31 yX4_put RX4, .methodLinkNest RX0 94 yX4_isWithin RX4, .fieldLinkNest RX0 98 RX4 "LETTERS" "[I" RX4, .methodLinkNest RX1 19 yX4_put RX4, .methodLinkNest RX1 27 yX4_isWithin RX4, .methodLinkNest RX1 31 yX4_at RX4]
def NwG (U : State) : Prop := ∀ w ∈ nwL, va_Nw w U
theorem NwG.to {u U : State} (h : NwG u) (hm : ∀ (a : String) (i : Nat) (x : MethodName) (t : String), va_Nw (.methodLinkNest a i x t) u → va_Nw (.methodLinkNest a i x t) U) (hf : ∀ (a : String) (i : Nat) (b n d t : String), va_Nw (.fieldLinkNest a i b n d t) u → va_Nw (.fieldLinkNest a i b n d t) U) : NwG U := by
  intro w hw
  have hw2 := h w hw
  unfold nwL at hw
  simp only [List.mem_cons, List.not_mem_nil, or_false] at hw
  rcases hw with rfl | rfl | rfl | rfl | rfl | rfl | rfl | rfl | rfl | rfl | rfl | rfl | rfl
  all_goals first | exact hm _ _ _ _ hw2 | exact hf _ _ _ _ _ _ hw2
theorem NwG.warm {s U : State} (hW : s.WarmedH U.vm) (h : NwG s) : NwG U := h.to (fun _ _ _ _ q => va_Nw.warmM hW q) (fun _ _ _ _ _ _ q => va_Nw.warmF hW q)
theorem NwG.same {u U : State} (hv : U.vm = u.vm) (h : NwG u) : NwG U := h.to (fun _ _ _ _ q => va_Nw.same rfl hv.symm q) (fun _ _ _ _ _ _ q => va_Nw.same rfl hv.symm q)
def StG (G : gG) (U : State) (H : Heap) : Prop :=
  (va_Z RX4 "WEEKS_KEPT" "[I" (.ref (gA G 86)) (PA G) U H ∧ va_T .int (gA G 86) 4 (fun j => .int (i3 (tabS 86 j))) (PA G) U H) ∧
  (va_Z RX4 "LETTERS" "[I" (.ref (gA G 87)) (PA G) U H ∧ va_T .int (gA G 87) 4 (fun j => .int (i3 (tabS 87 j))) (PA G) U H) ∧
  (va_Z RL "TEXTS" "[Ljava/lang/String;" (.ref (gA G 88)) (PA G) U H ∧ va_T (.object "java/lang/String") (gA G 88) 19 (fun j => .ref (gA G (100 + (7 + j)))) (PA G) U H) ∧
  va_T .int (gA G 89) (gL G) (fun j => .int (i3 (gXs G j))) (PA G) U H ∧
  vk_S 26 txL txB (fun i => gA G (100 + i)) (fun i => gA G (200 + i)) (PA G) U H ∧
  va_Z "java/lang/String" "COMPACT_STRINGS" "Z" (.int 1) (PA G) U H ∧
  va_Zq "jdk/internal/util/Preconditions" "SIOOBE_FORMATTER" "Ljava/util/function/BiFunction;" (PA G) U H
theorem StG.kept {G : gG} {U : State} {H H1 : Heap} (h : StG G U H) (hq : ∀ a : Nat, a < H.size → ¬ PA G a → H1[a]? = H[a]?) : StG G U H1 :=
  ⟨⟨h.1.1.kept hq, h.1.2.kept hq⟩, ⟨h.2.1.1.kept hq, h.2.1.2.kept hq⟩, ⟨h.2.2.1.1.kept hq, h.2.2.1.2.kept hq⟩, h.2.2.2.1.kept hq, h.2.2.2.2.1.kept hq, h.2.2.2.2.2.1.kept hq, h.2.2.2.2.2.2.kept hq⟩
theorem StG.moved {G : gG} {u U : State} {H : Heap} (hvm : u.vm.Alike U.vm) (h : StG G u H) : StG G U H :=
  ⟨⟨va_Z.moved hvm h.1.1, va_T.moved hvm h.1.2⟩, ⟨va_Z.moved hvm h.2.1.1, va_T.moved hvm h.2.1.2⟩, ⟨va_Z.moved hvm h.2.2.1.1, va_T.moved hvm h.2.2.1.2⟩, va_T.moved hvm h.2.2.2.1, vk_S.moved hvm h.2.2.2.2.1, va_Z.moved hvm h.2.2.2.2.2.1, va_Zq.moved hvm h.2.2.2.2.2.2⟩
abbrev gT (G : gG) : List (ClassId × FieldType) := [(G.2.1, .int), (G.2.2.1, .object "GranaryLadder$Wall")]
def Wd (G : gG) (M : MemG) (U : State) (H : Heap) : Prop := va_P G.1 vwCl (pW G M) H ∧ va_K G.1 vwCl (gT G) U ∧ inj86 G ∧ rngM M ∧ StG G U H ∧ vkR7 G U ∧ NwG U ∧ (inR (gL G : Int) ∧ ∀ j, inR (gXs G j))
theorem Wd.P {G : gG} {M : MemG} {U : State} {H : Heap} (h : Wd G M U H) : va_P G.1 vwCl (pW G M) H := h.1
theorem Wd.K {G : gG} {M : MemG} {U : State} {H : Heap} (h : Wd G M U H) : va_K G.1 vwCl (gT G) U := h.2.1
theorem Wd.J {G : gG} {M : MemG} {U : State} {H : Heap} (h : Wd G M U H) : inj86 G := h.2.2.1
theorem Wd.R {G : gG} {M : MemG} {U : State} {H : Heap} (h : Wd G M U H) : rngM M := h.2.2.2.1
theorem Wd.S {G : gG} {M : MemG} {U : State} {H : Heap} (h : Wd G M U H) : StG G U H := h.2.2.2.2.1
theorem Wd.V {G : gG} {M : MemG} {U : State} {H : Heap} (h : Wd G M U H) : vkR7 G U := h.2.2.2.2.2.1
theorem Wd.N {G : gG} {M : MemG} {U : State} {H : Heap} (h : Wd G M U H) : NwG U := h.2.2.2.2.2.2.1
theorem Wd.X {G : gG} {M : MemG} {U : State} {H : Heap} (h : Wd G M U H) : inR (gL G : Int) ∧ ∀ j, inR (gXs G j) := h.2.2.2.2.2.2.2
theorem Wd.D {G : gG} {M : MemG} {U : State} {H : Heap} (h : Wd G M U H) : va_D (PA G) (pW G M) := pW_D h.J M
theorem Wd.warm {G : gG} {M : MemG} {s U : State} {H : Heap} (hW : s.WarmedH U.vm) (h : Wd G M s H) : Wd G M U H :=
  ⟨h.P, va_K.moved hW.alike h.K, h.J, h.R, StG.moved hW.alike h.S, ⟨vk_R.warm hW h.V.1, vk_R.warm hW h.V.2.1, vk_R.warm hW h.V.2.2.1, vk_R.warm hW h.V.2.2.2.1, vk_R.warm hW h.V.2.2.2.2.1, vk_R.warm hW h.V.2.2.2.2.2.1, vk_R.warm hW h.V.2.2.2.2.2.2⟩, h.N.warm hW, h.X⟩
theorem Wd.same {G : gG} {M : MemG} {u U : State} {H : Heap} (hv : U.vm = u.vm) (h : Wd G M u H) : Wd G M U H :=
  ⟨h.P, va_K.moved (by rw [hv]; exact Vm.Alike.refl u.vm) h.K, h.J, h.R, StG.moved (by rw [hv]; exact Vm.Alike.refl u.vm) h.S, ⟨vk_R.same hv h.V.1, vk_R.same hv h.V.2.1, vk_R.same hv h.V.2.2.1, vk_R.same hv h.V.2.2.2.1, vk_R.same hv h.V.2.2.2.2.1, vk_R.same hv h.V.2.2.2.2.2.1, vk_R.same hv h.V.2.2.2.2.2.2⟩, h.N.same hv, h.X⟩
/-- the pool changed, the rest of the heap did not -/
theorem Wd.back {G : gG} {M M' : MemG} {s : State} {H H1 : Heap} (h : Wd G M s H) (hP : va_P G.1 vwCl (pW G M') H1) (hR : rngM M') (hq : ∀ a : Nat, a < H.size → ¬ PA G a → H1[a]? = H[a]?) : Wd G M' s H1 :=
  ⟨hP, h.K, h.J, hR, h.S.kept hq, h.V, h.N, h.X⟩
/-! a method's contract: over the world, with what it answers and the world behind it -/
def PcG (G : gG) (M : MemG) (av : List Value) : Array Value → State → Prop := va_Pc av (fun U => Wd G M U U.heap)
def BcG (G : gG) (M : MemG) : State → Prop := fun t => va_P G.1 vwCl (pW G M) t.heap ∧ rngM M
def QcI (G : gG) (M : MemG) (r : Int) : Array Value → State → Outcome → State → Prop := va_Qi (fun (x : Int32) (_ : Unit) => x = i3 r ∧ inR r) (fun _ t => BcG G M t) (PA G)
def QcZ (G : gG) (M : MemG) (r : Int) : Array Value → State → Outcome → State → Prop := va_Qi (fun (x : Int32) (_ : Unit) => x = i3 r ∧ (r = 0 ∨ r = 1)) (fun _ t => BcG G M t) (PA G)
def QcL (G : gG) (M : MemG) (r : Int64) : Array Value → State → Outcome → State → Prop := va_Ql (fun (x : Int64) (_ : Unit) => x = r) (fun _ t => BcG G M t) (PA G)
def QcF (G : gG) (M : MemG) (r : UInt32) : Array Value → State → Outcome → State → Prop := va_Qf (fun (x : UInt32) (_ : Unit) => x = r) (fun _ t => BcG G M t) (PA G)
def QcD (G : gG) (M : MemG) (r : UInt64) : Array Value → State → Outcome → State → Prop := va_Qd (fun (x : UInt64) (_ : Unit) => x = r) (fun _ t => BcG G M t) (PA G)
def QcV (G : gG) (M : MemG) : Array Value → State → Outcome → State → Prop := va_Qv (fun (_ : Unit) => True) (fun _ t => BcG G M t) (PA G)
/-- it answers the object of the place i -/
def QcA (G : gG) (M : MemG) (i : Nat) : Array Value → State → Outcome → State → Prop := va_Qr (fun (_ : Unit) => True) (fun _ a t => a = gA G i ∧ BcG G M t) (PA G)
theorem PcG_blind (G : gG) (M : MemG) (av : List Value) : FrameBlind (PcG G M av) := by
  intro a U g mk h
  exact ⟨h.1, Wd.same (u := U) rfl h.2⟩
theorem PcG_of {G : gG} {M : MemG} {av : List Value} {s U : State} {H : Heap} (h : Wd G M s H) (hU : U.heap = H) (hW : s.WarmedH U.vm) : PcG G M av av.toArray U := by
  refine ⟨rfl, ?_⟩
  show Wd G M U U.heap
  rw [hU]
  exact h.warm hW
theorem inR_z {r : Int} (h : r = 0 ∨ r = 1) : inR r := by
  rcases h with h | h <;> subst h <;> decide
section KR
variable {p : Program} {l : Launch} {e : Env} {R : Room} {s : State} {m : MethodId} {args : Array Value} {below : List Frame} {meth : Method} {c : Code} {H : Heap} {locs : List Loc} {cells slots : Nat} {Q : State → Prop} {cc : ByteArray} {pc : Nat} {ls : Array Slot} {rest : List Value} {G : gG} {M M' : MemG}
/-! rows over whole numbers -/
theorem k_const {n : Int} (hx : p.tables.exec = Jvm.exec) (hb : c.code = cc) (hdg : decode cc pc = .ok (.iconst n, 1)) (k : W p l e R s m args below meth c H locs cells slots Q (F0 m (pc + 1) ls (.int (i3 n) :: rest))) : W p l e R s m args below meth c H locs cells slots Q (F0 m pc ls rest) := lv_iconst (v := i3 n) hx hb hdg rfl k
theorem k_bipush {n : Int} (hx : p.tables.exec = Jvm.exec) (hb : c.code = cc) (hdg : decode cc pc = .ok (.bipush n, 2)) (hn : (Int8.ofInt n).toInt32 = i3 n) (k : W p l e R s m args below meth c H locs cells slots Q (F0 m (pc + 2) ls (.int (i3 n) :: rest))) : W p l e R s m args below meth c H locs cells slots Q (F0 m pc ls rest) := lv_bipush (v := i3 n) hx hb hdg hn k
theorem k_sipush {n : Int} (hx : p.tables.exec = Jvm.exec) (hb : c.code = cc) (hdg : decode cc pc = .ok (.sipush n, 3)) (hn : (Int16.ofInt n).toInt32 = i3 n) (k : W p l e R s m args below meth c H locs cells slots Q (F0 m (pc + 3) ls (.int (i3 n) :: rest))) : W p l e R s m args below meth c H locs cells slots Q (F0 m pc ls rest) := lv_sipush (v := i3 n) hx hb hdg hn k
theorem k_add {a b : Int} (hx : p.tables.exec = Jvm.exec) (hb : c.code = cc) (hdg : decode cc pc = .ok (.iadd, 1)) (k : W p l e R s m args below meth c H locs cells slots Q (F0 m (pc + 1) ls (.int (i3 (a + b)) :: rest))) : W p l e R s m args below meth c H locs cells slots Q (F0 m pc ls (.int (i3 b) :: .int (i3 a) :: rest)) := lv_iadd hx hb hdg (by rw [i3_add]; exact k)
theorem k_sub {a b : Int} (hx : p.tables.exec = Jvm.exec) (hb : c.code = cc) (hdg : decode cc pc = .ok (.isub, 1)) (k : W p l e R s m args below meth c H locs cells slots Q (F0 m (pc + 1) ls (.int (i3 (a - b)) :: rest))) : W p l e R s m args below meth c H locs cells slots Q (F0 m pc ls (.int (i3 b) :: .int (i3 a) :: rest)) := lv_isub hx hb hdg (by rw [i3_sub]; exact k)
theorem k_mul {a b : Int} (hx : p.tables.exec = Jvm.exec) (hb : c.code = cc) (hdg : decode cc pc = .ok (.imul, 1)) (k : W p l e R s m args below meth c H locs cells slots Q (F0 m (pc + 1) ls (.int (i3 (a * b)) :: rest))) : W p l e R s m args below meth c H locs cells slots Q (F0 m pc ls (.int (i3 b) :: .int (i3 a) :: rest)) := lv_imul hx hb hdg (by rw [i3_mul]; exact k)
theorem k_neg {a : Int} (hx : p.tables.exec = Jvm.exec) (hb : c.code = cc) (hdg : decode cc pc = .ok (.ineg, 1)) (k : W p l e R s m args below meth c H locs cells slots Q (F0 m (pc + 1) ls (.int (i3 (-a)) :: rest))) : W p l e R s m args below meth c H locs cells slots Q (F0 m pc ls (.int (i3 a) :: rest)) := lv_ineg hx hb hdg (by rw [i3_neg]; exact k)
theorem k_div {a b : Int} (hx : p.tables.exec = Jvm.exec) (hb : c.code = cc) (hdg : decode cc pc = .ok (.idiv, 1)) (ha : inR a) (hbr : inR b) (h : 0 ≤ a ∧ 0 < b) (k : W p l e R s m args below meth c H locs cells slots Q (F0 m (pc + 1) ls (.int (i3 (a / b)) :: rest))) : W p l e R s m args below meth c H locs cells slots Q (F0 m pc ls (.int (i3 b) :: .int (i3 a) :: rest)) := lv_idiv hx hb hdg (i3_ne_0 hbr h.2) (by rw [i3_div ha hbr h.1 h.2]; exact k)
theorem k_rem {a b : Int} (hx : p.tables.exec = Jvm.exec) (hb : c.code = cc) (hdg : decode cc pc = .ok (.irem, 1)) (ha : inR a) (hbr : inR b) (h : 0 ≤ a ∧ 0 < b) (k : W p l e R s m args below meth c H locs cells slots Q (F0 m (pc + 1) ls (.int (i3 (a % b)) :: rest))) : W p l e R s m args below meth c H locs cells slots Q (F0 m pc ls (.int (i3 b) :: .int (i3 a) :: rest)) := lv_irem hx hb hdg (i3_ne_0 hbr h.2) (by rw [i3_rem ha hbr h.1 h.2]; exact k)
theorem k_and {a b : Int} (hx : p.tables.exec = Jvm.exec) (hb : c.code = cc) (hdg : decode cc pc = .ok (.iand, 1)) (k : W p l e R s m args below meth c H locs cells slots Q (F0 m (pc + 1) ls (.int (i3 (andI a b)) :: rest))) : W p l e R s m args below meth c H locs cells slots Q (F0 m pc ls (.int (i3 b) :: .int (i3 a) :: rest)) := lv_iand hx hb hdg (by unfold andI at k; rw [i3_of] at k; exact k)
theorem k_or {a b : Int} (hx : p.tables.exec = Jvm.exec) (hb : c.code = cc) (hdg : decode cc pc = .ok (.ior, 1)) (k : W p l e R s m args below meth c H locs cells slots Q (F0 m (pc + 1) ls (.int (i3 (orI a b)) :: rest))) : W p l e R s m args below meth c H locs cells slots Q (F0 m pc ls (.int (i3 b) :: .int (i3 a) :: rest)) := lv_ior hx hb hdg (by unfold orI at k; rw [i3_of] at k; exact k)
theorem k_shl {a b : Int} (hx : p.tables.exec = Jvm.exec) (hb : c.code = cc) (hdg : decode cc pc = .ok (.ishl, 1)) (k : W p l e R s m args below meth c H locs cells slots Q (F0 m (pc + 1) ls (.int (i3 (shlI a b)) :: rest))) : W p l e R s m args below meth c H locs cells slots Q (F0 m pc ls (.int (i3 b) :: .int (i3 a) :: rest)) := lv_ishl hx hb hdg (by unfold shlI at k; rw [i3_of] at k; exact k)
theorem k_shr {a b : Int} (hx : p.tables.exec = Jvm.exec) (hb : c.code = cc) (hdg : decode cc pc = .ok (.ishr, 1)) (k : W p l e R s m args below meth c H locs cells slots Q (F0 m (pc + 1) ls (.int (i3 (shrI a b)) :: rest))) : W p l e R s m args below meth c H locs cells slots Q (F0 m pc ls (.int (i3 b) :: .int (i3 a) :: rest)) := lv_ishr hx hb hdg (by unfold shrI at k; rw [i3_of] at k; exact k)
theorem k_ushr {a b : Int} (hx : p.tables.exec = Jvm.exec) (hb : c.code = cc) (hdg : decode cc pc = .ok (.iushr, 1)) (k : W p l e R s m args below meth c H locs cells slots Q (F0 m (pc + 1) ls (.int (i3 (ushrI a b)) :: rest))) : W p l e R s m args below meth c H locs cells slots Q (F0 m pc ls (.int (i3 b) :: .int (i3 a) :: rest)) := lv_iushr hx hb hdg rfl (by unfold ushrI at k; rw [i3_of] at k; exact k)
theorem k_iinc {i nL k : Nat} {n x : Int} {lv lv' : List (Nat × Value)} (hx : p.tables.exec = Jvm.exec) (hb : c.code = cc) (hdg : decode cc pc = .ok (.iinc i n, 3)) (h : lv_has ls nL lv) (hk : lv[k]? = some (i, .int (i3 x))) (hn : i < nL) (hl : (i, Value.int (i3 (x + n))) :: lv.filter (fun q => !(q.1 == i) && !(q.1 + 1 == i && q.2.category == 2)) = lv')
    (kk : ∀ ls' : Array Slot, lv_has ls' nL lv' → W p l e R s m args below meth c H locs cells slots Q (F0 m (pc + 3) ls' rest)) : W p l e R s m args below meth c H locs cells slots Q (F0 m pc ls rest) := lv_iinc (v := i3 (x + n)) hx hb hdg h hk (i3_add x n) hn hl kk
theorem k_icmp_eq {x y : Int} {off : Int} {tgt : Nat} (hx : p.tables.exec = Jvm.exec) (hb : c.code = cc) (hr : inR x) (hr2 : inR y) (hdg : decode cc pc = .ok (.if_icmp .eq off, 3)) (ht : (pc : Int) + off = (tgt : Int)) (kt : x = y → W p l e R s m args below meth c H locs cells slots Q (F0 m tgt ls rest)) (kf : ¬ x = y → W p l e R s m args below meth c H locs cells slots Q (F0 m (pc + 3) ls rest)) : W p l e R s m args below meth c H locs cells slots Q (F0 m pc ls (.int (i3 y) :: .int (i3 x) :: rest)) := lv_icmp_eq hx hb hdg ht (fun h => kt ((i3_eq hr hr2).mp h)) (fun h => kf fun q => h ((i3_eq hr hr2).mpr q))
theorem k_icmp_ne {x y : Int} {off : Int} {tgt : Nat} (hx : p.tables.exec = Jvm.exec) (hb : c.code = cc) (hr : inR x) (hr2 : inR y) (hdg : decode cc pc = .ok (.if_icmp .ne off, 3)) (ht : (pc : Int) + off = (tgt : Int)) (kt : ¬ x = y → W p l e R s m args below meth c H locs cells slots Q (F0 m tgt ls rest)) (kf : x = y → W p l e R s m args below meth c H locs cells slots Q (F0 m (pc + 3) ls rest)) : W p l e R s m args below meth c H locs cells slots Q (F0 m pc ls (.int (i3 y) :: .int (i3 x) :: rest)) := lv_icmp_ne hx hb hdg ht (fun h => kt fun q => h ((i3_eq hr hr2).mpr q)) (fun h => kf ((i3_eq hr hr2).mp h))
theorem k_icmp_lt {x y : Int} {off : Int} {tgt : Nat} (hx : p.tables.exec = Jvm.exec) (hb : c.code = cc) (hr : inR x) (hr2 : inR y) (hdg : decode cc pc = .ok (.if_icmp .lt off, 3)) (ht : (pc : Int) + off = (tgt : Int)) (kt : x < y → W p l e R s m args below meth c H locs cells slots Q (F0 m tgt ls rest)) (kf : ¬ x < y → W p l e R s m args below meth c H locs cells slots Q (F0 m (pc + 3) ls rest)) : W p l e R s m args below meth c H locs cells slots Q (F0 m pc ls (.int (i3 y) :: .int (i3 x) :: rest)) := lv_icmp_lt hx hb hdg ht (fun h => kt ((i3_lt hr hr2).mp h)) (fun h => kf fun q => h ((i3_lt hr hr2).mpr q))
theorem k_icmp_gt {x y : Int} {off : Int} {tgt : Nat} (hx : p.tables.exec = Jvm.exec) (hb : c.code = cc) (hr : inR x) (hr2 : inR y) (hdg : decode cc pc = .ok (.if_icmp .gt off, 3)) (ht : (pc : Int) + off = (tgt : Int)) (kt : y < x → W p l e R s m args below meth c H locs cells slots Q (F0 m tgt ls rest)) (kf : ¬ y < x → W p l e R s m args below meth c H locs cells slots Q (F0 m (pc + 3) ls rest)) : W p l e R s m args below meth c H locs cells slots Q (F0 m pc ls (.int (i3 y) :: .int (i3 x) :: rest)) := lv_icmp_gt hx hb hdg ht (fun h => kt ((i3_lt hr2 hr).mp h)) (fun h => kf fun q => h ((i3_lt hr2 hr).mpr q))
theorem k_icmp_ge {x y : Int} {off : Int} {tgt : Nat} (hx : p.tables.exec = Jvm.exec) (hb : c.code = cc) (hr : inR x) (hr2 : inR y) (hdg : decode cc pc = .ok (.if_icmp .ge off, 3)) (ht : (pc : Int) + off = (tgt : Int)) (kt : ¬ x < y → W p l e R s m args below meth c H locs cells slots Q (F0 m tgt ls rest)) (kf : x < y → W p l e R s m args below meth c H locs cells slots Q (F0 m (pc + 3) ls rest)) : W p l e R s m args below meth c H locs cells slots Q (F0 m pc ls (.int (i3 y) :: .int (i3 x) :: rest)) := lv_icmp_ge hx hb hdg ht (fun h => kt (Int.not_lt.mpr ((i3_le hr2 hr).mp h))) (fun h => kf (Int.not_le.mp fun q => h ((i3_le hr2 hr).mpr q)))
theorem k_icmp_le {x y : Int} {off : Int} {tgt : Nat} (hx : p.tables.exec = Jvm.exec) (hb : c.code = cc) (hr : inR x) (hr2 : inR y) (hdg : decode cc pc = .ok (.if_icmp .le off, 3)) (ht : (pc : Int) + off = (tgt : Int)) (kt : ¬ y < x → W p l e R s m args below meth c H locs cells slots Q (F0 m tgt ls rest)) (kf : y < x → W p l e R s m args below meth c H locs cells slots Q (F0 m (pc + 3) ls rest)) : W p l e R s m args below meth c H locs cells slots Q (F0 m pc ls (.int (i3 y) :: .int (i3 x) :: rest)) := lv_icmp_le hx hb hdg ht (fun h => kt (Int.not_lt.mpr ((i3_le hr hr2).mp h))) (fun h => kf (Int.not_le.mp fun q => h ((i3_le hr hr2).mpr q)))
theorem k_if_eq {x : Int} {off : Int} {tgt : Nat} (hx : p.tables.exec = Jvm.exec) (hb : c.code = cc) (hr : inR x) (hdg : decode cc pc = .ok (.ifCond .eq off, 3)) (ht : (pc : Int) + off = (tgt : Int)) (kt : x = 0 → W p l e R s m args below meth c H locs cells slots Q (F0 m tgt ls rest)) (kf : ¬ x = 0 → W p l e R s m args below meth c H locs cells slots Q (F0 m (pc + 3) ls rest)) : W p l e R s m args below meth c H locs cells slots Q (F0 m pc ls (.int (i3 x) :: rest)) := lv_if_eq hx hb hdg ht (fun h => kt ((i3_eq hr inR_0).mp (h.trans i3_0.symm))) (fun h => kf fun q => h (((i3_eq hr inR_0).mpr q).trans i3_0))
theorem k_if_ne {x : Int} {off : Int} {tgt : Nat} (hx : p.tables.exec = Jvm.exec) (hb : c.code = cc) (hr : inR x) (hdg : decode cc pc = .ok (.ifCond .ne off, 3)) (ht : (pc : Int) + off = (tgt : Int)) (kt : ¬ x = 0 → W p l e R s m args below meth c H locs cells slots Q (F0 m tgt ls rest)) (kf : x = 0 → W p l e R s m args below meth c H locs cells slots Q (F0 m (pc + 3) ls rest)) : W p l e R s m args below meth c H locs cells slots Q (F0 m pc ls (.int (i3 x) :: rest)) := lv_if_ne hx hb hdg ht (fun h => kt fun q => h (((i3_eq hr inR_0).mpr q).trans i3_0)) (fun h => kf ((i3_eq hr inR_0).mp (h.trans i3_0.symm)))
theorem k_if_lt {x : Int} {off : Int} {tgt : Nat} (hx : p.tables.exec = Jvm.exec) (hb : c.code = cc) (hr : inR x) (hdg : decode cc pc = .ok (.ifCond .lt off, 3)) (ht : (pc : Int) + off = (tgt : Int)) (kt : x < 0 → W p l e R s m args below meth c H locs cells slots Q (F0 m tgt ls rest)) (kf : ¬ x < 0 → W p l e R s m args below meth c H locs cells slots Q (F0 m (pc + 3) ls rest)) : W p l e R s m args below meth c H locs cells slots Q (F0 m pc ls (.int (i3 x) :: rest)) := lv_if_lt hx hb hdg ht (fun h => kt ((i3_lt hr inR_0).mp (by rw [i3_0]; exact h))) (fun h => kf fun q => h (by have q2 := (i3_lt hr inR_0).mpr q; rw [i3_0] at q2; exact q2))
theorem k_if_gt {x : Int} {off : Int} {tgt : Nat} (hx : p.tables.exec = Jvm.exec) (hb : c.code = cc) (hr : inR x) (hdg : decode cc pc = .ok (.ifCond .gt off, 3)) (ht : (pc : Int) + off = (tgt : Int)) (kt : 0 < x → W p l e R s m args below meth c H locs cells slots Q (F0 m tgt ls rest)) (kf : ¬ 0 < x → W p l e R s m args below meth c H locs cells slots Q (F0 m (pc + 3) ls rest)) : W p l e R s m args below meth c H locs cells slots Q (F0 m pc ls (.int (i3 x) :: rest)) := lv_if_gt hx hb hdg ht (fun h => kt ((i3_lt inR_0 hr).mp (by rw [i3_0]; exact h))) (fun h => kf fun q => h (by have q2 := (i3_lt inR_0 hr).mpr q; rw [i3_0] at q2; exact q2))
theorem k_if_ge {x : Int} {off : Int} {tgt : Nat} (hx : p.tables.exec = Jvm.exec) (hb : c.code = cc) (hr : inR x) (hdg : decode cc pc = .ok (.ifCond .ge off, 3)) (ht : (pc : Int) + off = (tgt : Int)) (kt : ¬ x < 0 → W p l e R s m args below meth c H locs cells slots Q (F0 m tgt ls rest)) (kf : x < 0 → W p l e R s m args below meth c H locs cells slots Q (F0 m (pc + 3) ls rest)) : W p l e R s m args below meth c H locs cells slots Q (F0 m pc ls (.int (i3 x) :: rest)) := lv_if_ge hx hb hdg ht (fun h => kt (Int.not_lt.mpr ((i3_le inR_0 hr).mp (by rw [i3_0]; exact h)))) (fun h => kf (Int.not_le.mp fun q => h (by have q2 := (i3_le inR_0 hr).mpr q; rw [i3_0] at q2; exact q2)))
theorem k_if_le {x : Int} {off : Int} {tgt : Nat} (hx : p.tables.exec = Jvm.exec) (hb : c.code = cc) (hr : inR x) (hdg : decode cc pc = .ok (.ifCond .le off, 3)) (ht : (pc : Int) + off = (tgt : Int)) (kt : ¬ 0 < x → W p l e R s m args below meth c H locs cells slots Q (F0 m tgt ls rest)) (kf : 0 < x → W p l e R s m args below meth c H locs cells slots Q (F0 m (pc + 3) ls rest)) : W p l e R s m args below meth c H locs cells slots Q (F0 m pc ls (.int (i3 x) :: rest)) := lv_if_le hx hb hdg ht (fun h => kt (Int.not_lt.mpr ((i3_le hr inR_0).mp (by rw [i3_0]; exact h)))) (fun h => kf (Int.not_le.mp fun q => h (by have q2 := (i3_le hr inR_0).mpr q; rw [i3_0] at q2; exact q2)))
/-! the pool's rows -/
theorem k_len {a : Nat} (hx : p.tables.exec = Jvm.exec) (hb : c.code = cc) (hW : Wd G M s H) (ha : 16 ≤ a ∧ a < 86) (hdg : decode cc pc = .ok (.arraylength, 1)) (k : W p l e R s m args below meth c H locs cells slots Q (F0 m (pc + 1) ls (.int (i3 (lenA a : Nat)) :: rest))) : W p l e R s m args below meth c H locs cells slots Q (F0 m pc ls (.ref (gA G a) :: rest)) := by
  have he : (pW G M)[a]? = some (gA G a, .inl (G.2.1, lenA a, .inl (fun j => i3 (M a j)))) := by rw [pW_get G M ha.2]; unfold entF; rw [if_pos ha.1]
  exact va_alen hx hb hW.K hW.P a 0 he rfl (i3_nat _) hdg k
theorem k_ald {a : Nat} {i : Int} (hx : p.tables.exec = Jvm.exec) (hb : c.code = cc) (hW : Wd G M s H) (ha : 16 ≤ a ∧ a < 86) (hi : inR i) (h0 : 0 ≤ i) (h1 : i < (lenA a : Nat)) (hdg : decode cc pc = .ok (.iaload, 1)) (k : W p l e R s m args below meth c H locs cells slots Q (F0 m (pc + 1) ls (.int (i3 (M a i.toNat)) :: rest))) : W p l e R s m args below meth c H locs cells slots Q (F0 m pc ls (.int (i3 i) :: .ref (gA G a) :: rest)) := by
  have he : (pW G M)[a]? = some (gA G a, .inl (G.2.1, lenA a, .inl (fun j => i3 (M a j)))) := by rw [pW_get G M ha.2]; unfold entF; rw [if_pos ha.1]
  refine va_iald hx hb hW.K hW.P a 0 he rfl (i3_in hi h0 h1) hdg ?_
  rw [i3_clamp hi]
  exact k
theorem k_ast {a : Nat} {i x : Int} (hx : p.tables.exec = Jvm.exec) (hb : c.code = cc) (hW : Wd G M s H) (hS : va_S (PA G) s.heap H locs) (ha : 16 ≤ a ∧ a < 86) (hi : inR i) (h0 : 0 ≤ i) (h1 : i < (lenA a : Nat)) (hv : inR x) (hdg : decode cc pc = .ok (.iastore, 1)) (k : ∀ (H1 : Heap) (locs1 : List Loc), Wd G (up M a i.toNat x) s H1 → va_S (PA G) s.heap H1 locs1 → W p l e R s m args below meth c H1 locs1 cells slots Q (F0 m (pc + 1) ls rest)) : W p l e R s m args below meth c H locs cells slots Q (F0 m pc ls (.int (i3 x) :: .int (i3 i) :: .ref (gA G a) :: rest)) := by
  have he : (pW G M)[a]? = some (gA G a, .inl (G.2.1, lenA a, .inl (fun j => i3 (M a j)))) := by rw [pW_get G M ha.2]; unfold entF; rw [if_pos ha.1]
  have hp : ∀ f : Nat → Int32, (∀ j, f j = i3 (up M a i.toNat x a j)) → (pW G M).set a (gA G a, .inl (G.2.1, lenA a, .inl f)) = pW G (up M a i.toNat x) := by
    intro f hf
    refine pW_set ha.2 ?_ (fun j hj => up_other hj)
    unfold entF
    rw [if_pos ha.1]
    rw [show f = (fun j => i3 (up M a i.toNat x a j)) from funext hf]
  have hf : ∀ j, upd (fun j => i3 (M a j)) (i3 i).toNatClampNeg (i3 x) j = i3 (up M a i.toNat x a j) := by
    intro j
    rw [i3_clamp hi]
    unfold upd up
    by_cases c : j = i.toNat
    · subst c; simp
    · simp [c]
  refine W.iast hx hb (hW.P a _ he) ((hW.K.2 0 _ rfl).1 (lenA a) (fun j => .int (i3 (M a j)))) (fun q => by cases q) (by show ¬ (i3 i < 0 ∨ (arrV _ _ _).slots.size ≤ _); rw [arrV_size]; exact i3_in hi h0 h1) rfl rfl hdg fun H1 e z oq => ?_
  have hP1 : va_P G.1 vwCl (pW G (up M a i.toNat x)) H1 := by
    rw [← hp _ hf]
    refine hW.P.set hW.D he ?_ oq
    show H1[gA G a]? = some (vp_cell _ _)
    rw [e, vp_cell_i, vp_cell_i, arrV_store]
    congr 2
    funext j
    unfold updV upd
    by_cases c : j = (i3 i).toNatClampNeg <;> simp [c]
  exact k H1 _ (hW.back hP1 (rngM_up hW.R hv) (fun q _ hq => oq q (fun e => hq (e ▸ hW.J.2 a ha.2)))) (hS.put z oq (hW.D.2 a _ he))
/-- an int field of an object of the pool gets another number -/
theorem k_put {own C : String} {T : u_T} {N ci index o : Nat} {Ts : List Cond} {x : Int} {fs : List Value} {ty : FieldType} (hx : p.tables.exec = Jvm.exec) (hb : c.code = cc) (hW : Wd G M s H) (hS : va_S (PA G) s.heap H locs) (hts : ∀ w ∈ Ts, w.before args s = true) (hin : ∀ w ∈ u_ws C T N, w ∈ Ts) (ty0 : Nat → FieldType) (hty : ∀ k, k < N → parseFieldDescriptor (T k).2.2.1 = some (ty0 k)) (hnm : ∀ a, a < N → ∀ b, b < N → a ≠ b → (T a).2.1 ≠ (T b).2.1) (hown : s.vm.findClass own = some m.cls) (ho : o < 86) (he : entF G (M o) o = .inr (ci, fs)) (hc : vwCl[ci]? = some (C, T, N)) (k : Nat) (hk : k < N) (he2 : entF G (up M o k x o) o = .inr (ci, fs.set k (.int (i3 x)))) (hlink : (Cond.fieldLink own index C (T k).2.1 (T k).2.2.1).before args s = true) (hsame : (T k).1 = C) (hfin : (T k).2.2.2 = false) (hd : parseFieldDescriptor (T k).2.2.1 = some ty) (hn : narrow ty (.int (i3 x)) = .int (i3 x)) (hfit : fits ty (.int (i3 x)) = true) (hl : k < fs.length) (hv : inR x)
    (hdg : decode cc pc = .ok (.putfield index, 3)) (kk : ∀ (H1 : Heap) (locs1 : List Loc), Wd G (up M o k x) s H1 → va_S (PA G) s.heap H1 locs1 → W p l e R s m args below meth c H1 locs1 cells slots Q (F0 m (pc + 3) ls rest)) : W p l e R s m args below meth c H locs cells slots Q (F0 m pc ls (.int (i3 x) :: .ref (gA G o) :: rest)) := by
  have hg : (pW G M)[o]? = some (gA G o, .inr (ci, fs)) := by rw [pW_get G M ho, he]
  refine va_put (A := PA G) (H0 := H) hx hb hts hin ty0 hty hnm hown hW.K hW.P hW.D ⟨Nat.le_refl _, fun _ _ _ => rfl, hS.2.2⟩ o hg hc k hk hlink (fun y hy => by rw [hsame] at hy; exact hy) hfin hd hn hfit hl hdg (fun H1 locs1 hP1 _ hS1 => ?_)
  rw [pW_set ho he2 (fun j hj => up_other hj)] at hP1
  exact kk H1 locs1 (hW.back hP1 (rngM_up hW.R hv) hS1.2.1) ⟨Nat.le_trans hS.1 hS1.1, fun q h1 h2 => by rw [hS1.2.1 q (Nat.lt_of_lt_of_le h1 hS.1) h2, hS.2.1 q h1 h2], hS1.2.2⟩
theorem k_ret {v r : Int} (hx : p.tables.exec = Jvm.exec) (hb : c.code = cc) (hr : meth.sig.returnType = some .int) (hlocks : meth.locks = false) (hW : Wd G M s H) (hS : va_S (PA G) s.heap H locs) (hv : v = r) (hvr : inR v) (hdg : decode cc pc = .ok (.ireturn, 1)) : W p l e R s m args below meth c H locs cells slots (MQ below (QcI G M r) args s cells slots (PA G)) (F0 m pc ls [.int (i3 v)]) := by
  subst hv
  exact W.iret (v := i3 v) hx hb hr (fun t ht hWm => ⟨⟨i3 v, (), rfl, ⟨rfl, hvr⟩, by show BcG G M t; unfold BcG; rw [ht]; exact ⟨hW.P, hW.R⟩⟩, hS.F ht⟩) hS.2.2 hdg
theorem k_rett {v r : Int} {ty : FieldType} (hx : p.tables.exec = Jvm.exec) (hb : c.code = cc) (hr : meth.sig.returnType = some ty) (hlocks : meth.locks = false) (hW : Wd G M s H) (hS : va_S (PA G) s.heap H locs) (hv : v = r) (hvr : inR v) (hn : narrow ty (.int (i3 v)) = .int (i3 v)) (hdg : decode cc pc = .ok (.ireturn, 1)) : W p l e R s m args below meth c H locs cells slots (MQ below (QcI G M r) args s cells slots (PA G)) (F0 m pc ls [.int (i3 v)]) := by
  subst hv
  exact W.zret (v := i3 v) hx hb hr hn (fun t ht hWm => ⟨⟨i3 v, (), rfl, ⟨rfl, hvr⟩, by show BcG G M t; unfold BcG; rw [ht]; exact ⟨hW.P, hW.R⟩⟩, hS.F ht⟩) hS.2.2 hdg
theorem k_retz {v r : Int} (hx : p.tables.exec = Jvm.exec) (hb : c.code = cc) (hr : meth.sig.returnType = some .boolean) (hlocks : meth.locks = false) (hW : Wd G M s H) (hS : va_S (PA G) s.heap H locs) (hv : v = r) (hvr : v = 0 ∨ v = 1) (hdg : decode cc pc = .ok (.ireturn, 1)) : W p l e R s m args below meth c H locs cells slots (MQ below (QcZ G M r) args s cells slots (PA G)) (F0 m pc ls [.int (i3 v)]) := by
  subst hv
  have hn : narrow .boolean (.int (i3 v)) = .int (i3 v) := by rcases hvr with h | h <;> subst h <;> decide +kernel
  exact W.zret (v := i3 v) hx hb hr hn (fun t ht hWm => ⟨⟨i3 v, (), rfl, ⟨rfl, hvr⟩, by show BcG G M t; unfold BcG; rw [ht]; exact ⟨hW.P, hW.R⟩⟩, hS.F ht⟩) hS.2.2 hdg
theorem k_retv (hx : p.tables.exec = Jvm.exec) (hb : c.code = cc) (hr : meth.sig.returnType = none) (hlocks : meth.locks = false) (hW : Wd G M s H) (hS : va_S (PA G) s.heap H locs) (hM : M = M') (hdg : decode cc pc = .ok (.return_, 1)) : W p l e R s m args below meth c H locs cells slots (MQ below (QcV G M') args s cells slots (PA G)) (F0 m pc ls []) := by
  subst hM
  exact W.vret hx hb hr (fun t ht hWm => ⟨⟨(), rfl, trivial, by show BcG G M t; unfold BcG; rw [ht]; exact ⟨hW.P, hW.R⟩⟩, hS.F ht⟩) hS.2.2 hdg
theorem k_retl {v r : Int64} (hx : p.tables.exec = Jvm.exec) (hb : c.code = cc) (hr : meth.sig.returnType = some .long) (hlocks : meth.locks = false) (hW : Wd G M s H) (hS : va_S (PA G) s.heap H locs) (hv : v = r) (hdg : decode cc pc = .ok (.lreturn, 1)) : W p l e R s m args below meth c H locs cells slots (MQ below (QcL G M r) args s cells slots (PA G)) (F0 m pc ls [.long v]) := by
  subst hv
  exact W.lret (v := v) hx hb hr (fun t ht hWm => ⟨⟨v, (), rfl, rfl, by show BcG G M t; unfold BcG; rw [ht]; exact ⟨hW.P, hW.R⟩⟩, hS.F ht⟩) hS.2.2 hdg
theorem k_retf {v r : UInt32} (hx : p.tables.exec = Jvm.exec) (hb : c.code = cc) (hr : meth.sig.returnType = some .float) (hlocks : meth.locks = false) (hW : Wd G M s H) (hS : va_S (PA G) s.heap H locs) (hv : v = r) (hdg : decode cc pc = .ok (.freturn, 1)) : W p l e R s m args below meth c H locs cells slots (MQ below (QcF G M r) args s cells slots (PA G)) (F0 m pc ls [.float v]) := by
  subst hv
  exact W.fret (v := v) hx hb hr (fun t ht hWm => ⟨⟨v, (), rfl, rfl, by show BcG G M t; unfold BcG; rw [ht]; exact ⟨hW.P, hW.R⟩⟩, hS.F ht⟩) hS.2.2 hdg
theorem k_retd {v r : UInt64} (hx : p.tables.exec = Jvm.exec) (hb : c.code = cc) (hr : meth.sig.returnType = some .double) (hlocks : meth.locks = false) (hW : Wd G M s H) (hS : va_S (PA G) s.heap H locs) (hv : v = r) (hdg : decode cc pc = .ok (.dreturn, 1)) : W p l e R s m args below meth c H locs cells slots (MQ below (QcD G M r) args s cells slots (PA G)) (F0 m pc ls [.double v]) := by
  subst hv
  exact W.dret (v := v) hx hb hr (fun t ht hWm => ⟨⟨v, (), rfl, rfl, by show BcG G M t; unfold BcG; rw [ht]; exact ⟨hW.P, hW.R⟩⟩, hS.F ht⟩) hS.2.2 hdg
theorem k_reta {i r : Nat} {rt : FieldType} (hx : p.tables.exec = Jvm.exec) (hb : c.code = cc) (hr : meth.sig.returnType = some rt) (hrt : (∃ n, rt = .object n) ∨ ∃ t, rt = .array t) (hlocks : meth.locks = false) (hW : Wd G M s H) (hS : va_S (PA G) s.heap H locs) (hv : i = r) (hdg : decode cc pc = .ok (.areturn, 1)) : W p l e R s m args below meth c H locs cells slots (MQ below (QcA G M r) args s cells slots (PA G)) (F0 m pc ls [.ref (gA G i)]) := by
  subst hv
  exact W.aret hx hb hr hrt (Or.inr ⟨_, rfl⟩) (fun t ht hWm => ⟨⟨(), gA G i, rfl, trivial, rfl, by unfold BcG; rw [ht]; exact ⟨hW.P, hW.R⟩⟩, hS.F ht⟩) hS.2.2 hdg
/-! calls -/
variable {y : MethodName} {bytes : ByteArray} {maxL nL n index : Nat} {ret : Option FieldType} {wy Ts : List Cond} {rm : Room} {own C : String} {b : Addr} {As st0 : List Value}
theorem k_cVi {r : Int} (F : CallFix p m c cc nL s args Ts own) (hM : Met l y wy rm (PcG G M (Value.ref b :: As)) (QcI G M' r) 0 0 (PA G)) (cw : CallW R s args own C index y bytes maxL ret wy rm 0 0 n) (hrv : ∃ cell : Cell, H[b]? = some cell ∧ cell.vm.isStatics = false ∧ s.vm.findClass C = some cell.cls) (hW : Wd G M s H) (hS : va_S (PA G) s.heap H locs) (hn : As.length = n) (hls : ls.size = nL) (hst : st0 = As.reverse ++ .ref b :: rest) (hroom : 2 * (F0 m pc ls st0).monitorRoom + (rest.map fun v => v.category).sum ≤ 8) (hdg : decode cc pc = .ok (.invokevirtual index, 3)) (hf : cells ≤ R.cells ∧ slots ≤ R.slots)
    (kk : inR r → ∀ (H1 : Heap) (locs1 : List Loc), Wd G M' s H1 → va_S (PA G) s.heap H1 locs1 → W p l e R s m args below meth c H1 locs1 cells slots Q (F0 m (pc + 3) ls (.int (i3 r) :: rest))) : W p l e R s m args below meth c H locs cells slots Q (F0 m pc ls st0) := by
  refine va_calli (va_runV F hM cw ⟨PcG_blind _ _ _, hrv, fun U hU hWm => PcG_of hW hU hWm⟩ rfl hn hls hst hroom hdg hf) hS (fun q _ h => h) (fun q h => h) (fun x u t H1 locs1 ht hvm hw hB hz hk hS1 => ?_)
  obtain ⟨rfl, hr⟩ := hw
  have hB' : BcG G M' t := hB
  unfold BcG at hB'; rw [ht] at hB'
  exact kk hr H1 locs1 (hW.back hB'.1 hB'.2 hk) hS1
theorem k_cVz {r : Int} (F : CallFix p m c cc nL s args Ts own) (hM : Met l y wy rm (PcG G M (Value.ref b :: As)) (QcZ G M' r) 0 0 (PA G)) (cw : CallW R s args own C index y bytes maxL ret wy rm 0 0 n) (hrv : ∃ cell : Cell, H[b]? = some cell ∧ cell.vm.isStatics = false ∧ s.vm.findClass C = some cell.cls) (hW : Wd G M s H) (hS : va_S (PA G) s.heap H locs) (hn : As.length = n) (hls : ls.size = nL) (hst : st0 = As.reverse ++ .ref b :: rest) (hroom : 2 * (F0 m pc ls st0).monitorRoom + (rest.map fun v => v.category).sum ≤ 8) (hdg : decode cc pc = .ok (.invokevirtual index, 3)) (hf : cells ≤ R.cells ∧ slots ≤ R.slots)
    (kk : (r = 0 ∨ r = 1) → ∀ (H1 : Heap) (locs1 : List Loc), Wd G M' s H1 → va_S (PA G) s.heap H1 locs1 → W p l e R s m args below meth c H1 locs1 cells slots Q (F0 m (pc + 3) ls (.int (i3 r) :: rest))) : W p l e R s m args below meth c H locs cells slots Q (F0 m pc ls st0) := by
  refine va_calli (va_runV F hM cw ⟨PcG_blind _ _ _, hrv, fun U hU hWm => PcG_of hW hU hWm⟩ rfl hn hls hst hroom hdg hf) hS (fun q _ h => h) (fun q h => h) (fun x u t H1 locs1 ht hvm hw hB hz hk hS1 => ?_)
  obtain ⟨rfl, hr⟩ := hw
  have hB' : BcG G M' t := hB
  unfold BcG at hB'; rw [ht] at hB'
  exact kk hr H1 locs1 (hW.back hB'.1 hB'.2 hk) hS1
theorem k_cVv (F : CallFix p m c cc nL s args Ts own) (hM : Met l y wy rm (PcG G M (Value.ref b :: As)) (QcV G M') 0 0 (PA G)) (cw : CallW R s args own C index y bytes maxL ret wy rm 0 0 n) (hrv : ∃ cell : Cell, H[b]? = some cell ∧ cell.vm.isStatics = false ∧ s.vm.findClass C = some cell.cls) (hW : Wd G M s H) (hS : va_S (PA G) s.heap H locs) (hn : As.length = n) (hls : ls.size = nL) (hst : st0 = As.reverse ++ .ref b :: rest) (hroom : 2 * (F0 m pc ls st0).monitorRoom + (rest.map fun v => v.category).sum ≤ 8) (hdg : decode cc pc = .ok (.invokevirtual index, 3)) (hf : cells ≤ R.cells ∧ slots ≤ R.slots)
    (kk : ∀ (H1 : Heap) (locs1 : List Loc), Wd G M' s H1 → va_S (PA G) s.heap H1 locs1 → W p l e R s m args below meth c H1 locs1 cells slots Q (F0 m (pc + 3) ls rest)) : W p l e R s m args below meth c H locs cells slots Q (F0 m pc ls st0) := by
  refine va_callv (va_runV F hM cw ⟨PcG_blind _ _ _, hrv, fun U hU hWm => PcG_of hW hU hWm⟩ rfl hn hls hst hroom hdg hf) hS (fun q _ h => h) (fun q h => h) (fun u t H1 locs1 ht hvm hw hB hz hk hS1 => ?_)
  have hB' : BcG G M' t := hB
  unfold BcG at hB'; rw [ht] at hB'
  exact kk H1 locs1 (hW.back hB'.1 hB'.2 hk) hS1
theorem k_cVf {r : UInt32} (F : CallFix p m c cc nL s args Ts own) (hM : Met l y wy rm (PcG G M (Value.ref b :: As)) (QcF G M' r) 0 0 (PA G)) (cw : CallW R s args own C index y bytes maxL ret wy rm 0 0 n) (hrv : ∃ cell : Cell, H[b]? = some cell ∧ cell.vm.isStatics = false ∧ s.vm.findClass C = some cell.cls) (hW : Wd G M s H) (hS : va_S (PA G) s.heap H locs) (hn : As.length = n) (hls : ls.size = nL) (hst : st0 = As.reverse ++ .ref b :: rest) (hroom : 2 * (F0 m pc ls st0).monitorRoom + (rest.map fun v => v.category).sum ≤ 8) (hdg : decode cc pc = .ok (.invokevirtual index, 3)) (hf : cells ≤ R.cells ∧ slots ≤ R.slots)
    (kk : ∀ (H1 : Heap) (locs1 : List Loc), Wd G M' s H1 → va_S (PA G) s.heap H1 locs1 → W p l e R s m args below meth c H1 locs1 cells slots Q (F0 m (pc + 3) ls (.float r :: rest))) : W p l e R s m args below meth c H locs cells slots Q (F0 m pc ls st0) := by
  refine va_callf (va_runV F hM cw ⟨PcG_blind _ _ _, hrv, fun U hU hWm => PcG_of hW hU hWm⟩ rfl hn hls hst hroom hdg hf) hS (fun q _ h => h) (fun q h => h) (fun x u t H1 locs1 ht hvm hw hB hz hk hS1 => ?_)
  have hw' : x = r := hw
  subst hw'
  have hB' : BcG G M' t := hB
  unfold BcG at hB'; rw [ht] at hB'
  exact kk H1 locs1 (hW.back hB'.1 hB'.2 hk) hS1
theorem k_cVd {r : UInt64} (F : CallFix p m c cc nL s args Ts own) (hM : Met l y wy rm (PcG G M (Value.ref b :: As)) (QcD G M' r) 0 0 (PA G)) (cw : CallW R s args own C index y bytes maxL ret wy rm 0 0 n) (hrv : ∃ cell : Cell, H[b]? = some cell ∧ cell.vm.isStatics = false ∧ s.vm.findClass C = some cell.cls) (hW : Wd G M s H) (hS : va_S (PA G) s.heap H locs) (hn : As.length = n) (hls : ls.size = nL) (hst : st0 = As.reverse ++ .ref b :: rest) (hroom : 2 * (F0 m pc ls st0).monitorRoom + (rest.map fun v => v.category).sum ≤ 8) (hdg : decode cc pc = .ok (.invokevirtual index, 3)) (hf : cells ≤ R.cells ∧ slots ≤ R.slots)
    (kk : ∀ (H1 : Heap) (locs1 : List Loc), Wd G M' s H1 → va_S (PA G) s.heap H1 locs1 → W p l e R s m args below meth c H1 locs1 cells slots Q (F0 m (pc + 3) ls (.double r :: rest))) : W p l e R s m args below meth c H locs cells slots Q (F0 m pc ls st0) := by
  refine va_calld (va_runV F hM cw ⟨PcG_blind _ _ _, hrv, fun U hU hWm => PcG_of hW hU hWm⟩ rfl hn hls hst hroom hdg hf) hS (fun q _ h => h) (fun q h => h) (fun x u t H1 locs1 ht hvm hw hB hz hk hS1 => ?_)
  have hw' : x = r := hw
  subst hw'
  have hB' : BcG G M' t := hB
  unfold BcG at hB'; rw [ht] at hB'
  exact kk H1 locs1 (hW.back hB'.1 hB'.2 hk) hS1
theorem k_cSi {r : Int} (F : CallFix p m c cc nL s args Ts own) (hM : Met l y wy rm (PcG G M As) (QcI G M' r) 0 0 (PA G)) (cw : CallB R s args own index y bytes maxL ret wy rm 0 0 n ∧ (Cond.static y).before args s = true) (hW : Wd G M s H) (hS : va_S (PA G) s.heap H locs) (hn : As.length = n) (hls : ls.size = nL) (hst : st0 = As.reverse ++ rest) (hroom : 2 * (F0 m pc ls st0).monitorRoom + (rest.map fun v => v.category).sum ≤ 8) (hdg : decode cc pc = .ok (.invokestatic index, 3)) (hf : cells ≤ R.cells ∧ slots ≤ R.slots)
    (kk : inR r → ∀ (H1 : Heap) (locs1 : List Loc), Wd G M' s H1 → va_S (PA G) s.heap H1 locs1 → W p l e R s m args below meth c H1 locs1 cells slots Q (F0 m (pc + 3) ls (.int (i3 r) :: rest))) : W p l e R s m args below meth c H locs cells slots Q (F0 m pc ls st0) := by
  refine va_calli (va_runS F hM cw ⟨PcG_blind _ _ _, fun U hU hWm => PcG_of hW hU hWm⟩ rfl hn hls hst hroom hdg hf) hS (fun q _ h => h) (fun q h => h) (fun x u t H1 locs1 ht hvm hw hB hz hk hS1 => ?_)
  obtain ⟨rfl, hr⟩ := hw
  have hB' : BcG G M' t := hB
  unfold BcG at hB'; rw [ht] at hB'
  exact kk hr H1 locs1 (hW.back hB'.1 hB'.2 hk) hS1
theorem k_cSz {r : Int} (F : CallFix p m c cc nL s args Ts own) (hM : Met l y wy rm (PcG G M As) (QcZ G M' r) 0 0 (PA G)) (cw : CallB R s args own index y bytes maxL ret wy rm 0 0 n ∧ (Cond.static y).before args s = true) (hW : Wd G M s H) (hS : va_S (PA G) s.heap H locs) (hn : As.length = n) (hls : ls.size = nL) (hst : st0 = As.reverse ++ rest) (hroom : 2 * (F0 m pc ls st0).monitorRoom + (rest.map fun v => v.category).sum ≤ 8) (hdg : decode cc pc = .ok (.invokestatic index, 3)) (hf : cells ≤ R.cells ∧ slots ≤ R.slots)
    (kk : (r = 0 ∨ r = 1) → ∀ (H1 : Heap) (locs1 : List Loc), Wd G M' s H1 → va_S (PA G) s.heap H1 locs1 → W p l e R s m args below meth c H1 locs1 cells slots Q (F0 m (pc + 3) ls (.int (i3 r) :: rest))) : W p l e R s m args below meth c H locs cells slots Q (F0 m pc ls st0) := by
  refine va_calli (va_runS F hM cw ⟨PcG_blind _ _ _, fun U hU hWm => PcG_of hW hU hWm⟩ rfl hn hls hst hroom hdg hf) hS (fun q _ h => h) (fun q h => h) (fun x u t H1 locs1 ht hvm hw hB hz hk hS1 => ?_)
  obtain ⟨rfl, hr⟩ := hw
  have hB' : BcG G M' t := hB
  unfold BcG at hB'; rw [ht] at hB'
  exact kk hr H1 locs1 (hW.back hB'.1 hB'.2 hk) hS1
theorem k_cSv (F : CallFix p m c cc nL s args Ts own) (hM : Met l y wy rm (PcG G M As) (QcV G M') 0 0 (PA G)) (cw : CallB R s args own index y bytes maxL ret wy rm 0 0 n ∧ (Cond.static y).before args s = true) (hW : Wd G M s H) (hS : va_S (PA G) s.heap H locs) (hn : As.length = n) (hls : ls.size = nL) (hst : st0 = As.reverse ++ rest) (hroom : 2 * (F0 m pc ls st0).monitorRoom + (rest.map fun v => v.category).sum ≤ 8) (hdg : decode cc pc = .ok (.invokestatic index, 3)) (hf : cells ≤ R.cells ∧ slots ≤ R.slots)
    (kk : ∀ (H1 : Heap) (locs1 : List Loc), Wd G M' s H1 → va_S (PA G) s.heap H1 locs1 → W p l e R s m args below meth c H1 locs1 cells slots Q (F0 m (pc + 3) ls rest)) : W p l e R s m args below meth c H locs cells slots Q (F0 m pc ls st0) := by
  refine va_callv (va_runS F hM cw ⟨PcG_blind _ _ _, fun U hU hWm => PcG_of hW hU hWm⟩ rfl hn hls hst hroom hdg hf) hS (fun q _ h => h) (fun q h => h) (fun u t H1 locs1 ht hvm hw hB hz hk hS1 => ?_)
  have hB' : BcG G M' t := hB
  unfold BcG at hB'; rw [ht] at hB'
  exact kk H1 locs1 (hW.back hB'.1 hB'.2 hk) hS1
theorem k_cSl {r : Int64} (F : CallFix p m c cc nL s args Ts own) (hM : Met l y wy rm (PcG G M As) (QcL G M' r) 0 0 (PA G)) (cw : CallB R s args own index y bytes maxL ret wy rm 0 0 n ∧ (Cond.static y).before args s = true) (hW : Wd G M s H) (hS : va_S (PA G) s.heap H locs) (hn : As.length = n) (hls : ls.size = nL) (hst : st0 = As.reverse ++ rest) (hroom : 2 * (F0 m pc ls st0).monitorRoom + (rest.map fun v => v.category).sum ≤ 8) (hdg : decode cc pc = .ok (.invokestatic index, 3)) (hf : cells ≤ R.cells ∧ slots ≤ R.slots)
    (kk : ∀ (H1 : Heap) (locs1 : List Loc), Wd G M' s H1 → va_S (PA G) s.heap H1 locs1 → W p l e R s m args below meth c H1 locs1 cells slots Q (F0 m (pc + 3) ls (.long r :: rest))) : W p l e R s m args below meth c H locs cells slots Q (F0 m pc ls st0) := by
  refine va_calll (va_runS F hM cw ⟨PcG_blind _ _ _, fun U hU hWm => PcG_of hW hU hWm⟩ rfl hn hls hst hroom hdg hf) hS (fun q _ h => h) (fun q h => h) (fun x u t H1 locs1 ht hvm hw hB hz hk hS1 => ?_)
  have hw' : x = r := hw
  subst hw'
  have hB' : BcG G M' t := hB
  unfold BcG at hB'; rw [ht] at hB'
  exact kk H1 locs1 (hW.back hB'.1 hB'.2 hk) hS1
theorem k_cSa {i : Nat} (F : CallFix p m c cc nL s args Ts own) (hM : Met l y wy rm (PcG G M As) (QcA G M' i) 0 0 (PA G)) (cw : CallB R s args own index y bytes maxL ret wy rm 0 0 n ∧ (Cond.static y).before args s = true) (hW : Wd G M s H) (hS : va_S (PA G) s.heap H locs) (hn : As.length = n) (hls : ls.size = nL) (hst : st0 = As.reverse ++ rest) (hroom : 2 * (F0 m pc ls st0).monitorRoom + (rest.map fun v => v.category).sum ≤ 8) (hdg : decode cc pc = .ok (.invokestatic index, 3)) (hf : cells ≤ R.cells ∧ slots ≤ R.slots)
    (kk : ∀ (H1 : Heap) (locs1 : List Loc), Wd G M' s H1 → va_S (PA G) s.heap H1 locs1 → W p l e R s m args below meth c H1 locs1 cells slots Q (F0 m (pc + 3) ls (.ref (gA G i) :: rest))) : W p l e R s m args below meth c H locs cells slots Q (F0 m pc ls st0) := by
  refine va_callr (va_runS F hM cw ⟨PcG_blind _ _ _, fun U hU hWm => PcG_of hW hU hWm⟩ rfl hn hls hst hroom hdg hf) hS (fun q _ h => h) (fun q h => h) (fun u ra t H1 locs1 ht hvm hw hB hz hk hS1 => ?_)
  have hB' : ra = gA G i ∧ BcG G M' t := hB
  obtain ⟨rfl, hB'⟩ := hB'
  unfold BcG at hB'; rw [ht] at hB'
  exact kk H1 locs1 (hW.back hB'.1 hB'.2 hk) hS1
theorem k_cNi {r : Int} (F : CallFix p m c cc nL s args Ts own) (hM : Met l y wy rm (PcG G M As) (QcI G M' r) 0 0 (PA G)) {host : String} (cw : va_CN R s args own index y host bytes maxL ret wy rm 0 0 n ∧ (Cond.static y).before args s = true ∧ True) (hW : Wd G M s H) (hS : va_S (PA G) s.heap H locs) (hn : As.length = n) (hls : ls.size = nL) (hst : st0 = As.reverse ++ rest) (hroom : 2 * (F0 m pc ls st0).monitorRoom + (rest.map fun v => v.category).sum ≤ 8) (hdg : decode cc pc = .ok (.invokestatic index, 3)) (hf : cells ≤ R.cells ∧ slots ≤ R.slots)
    (kk : inR r → ∀ (H1 : Heap) (locs1 : List Loc), Wd G M' s H1 → va_S (PA G) s.heap H1 locs1 → W p l e R s m args below meth c H1 locs1 cells slots Q (F0 m (pc + 3) ls (.int (i3 r) :: rest))) : W p l e R s m args below meth c H locs cells slots Q (F0 m pc ls st0) := by
  refine va_calli (va_runSN F hM cw ⟨PcG_blind _ _ _, fun U hU hWm => PcG_of hW hU hWm⟩ rfl hn hls hst hroom hdg hf) hS (fun q _ h => h) (fun q h => h) (fun x u t H1 locs1 ht hvm hw hB hz hk hS1 => ?_)
  obtain ⟨rfl, hr⟩ := hw
  have hB' : BcG G M' t := hB
  unfold BcG at hB'; rw [ht] at hB'
  exact kk hr H1 locs1 (hW.back hB'.1 hB'.2 hk) hS1
theorem k_cNz {r : Int} (F : CallFix p m c cc nL s args Ts own) (hM : Met l y wy rm (PcG G M As) (QcZ G M' r) 0 0 (PA G)) {host : String} (cw : va_CN R s args own index y host bytes maxL ret wy rm 0 0 n ∧ (Cond.static y).before args s = true ∧ True) (hW : Wd G M s H) (hS : va_S (PA G) s.heap H locs) (hn : As.length = n) (hls : ls.size = nL) (hst : st0 = As.reverse ++ rest) (hroom : 2 * (F0 m pc ls st0).monitorRoom + (rest.map fun v => v.category).sum ≤ 8) (hdg : decode cc pc = .ok (.invokestatic index, 3)) (hf : cells ≤ R.cells ∧ slots ≤ R.slots)
    (kk : (r = 0 ∨ r = 1) → ∀ (H1 : Heap) (locs1 : List Loc), Wd G M' s H1 → va_S (PA G) s.heap H1 locs1 → W p l e R s m args below meth c H1 locs1 cells slots Q (F0 m (pc + 3) ls (.int (i3 r) :: rest))) : W p l e R s m args below meth c H locs cells slots Q (F0 m pc ls st0) := by
  refine va_calli (va_runSN F hM cw ⟨PcG_blind _ _ _, fun U hU hWm => PcG_of hW hU hWm⟩ rfl hn hls hst hroom hdg hf) hS (fun q _ h => h) (fun q h => h) (fun x u t H1 locs1 ht hvm hw hB hz hk hS1 => ?_)
  obtain ⟨rfl, hr⟩ := hw
  have hB' : BcG G M' t := hB
  unfold BcG at hB'; rw [ht] at hB'
  exact kk hr H1 locs1 (hW.back hB'.1 hB'.2 hk) hS1
theorem k_cNv (F : CallFix p m c cc nL s args Ts own) (hM : Met l y wy rm (PcG G M As) (QcV G M') 0 0 (PA G)) {host : String} (cw : va_CN R s args own index y host bytes maxL ret wy rm 0 0 n ∧ (Cond.static y).before args s = true ∧ True) (hW : Wd G M s H) (hS : va_S (PA G) s.heap H locs) (hn : As.length = n) (hls : ls.size = nL) (hst : st0 = As.reverse ++ rest) (hroom : 2 * (F0 m pc ls st0).monitorRoom + (rest.map fun v => v.category).sum ≤ 8) (hdg : decode cc pc = .ok (.invokestatic index, 3)) (hf : cells ≤ R.cells ∧ slots ≤ R.slots)
    (kk : ∀ (H1 : Heap) (locs1 : List Loc), Wd G M' s H1 → va_S (PA G) s.heap H1 locs1 → W p l e R s m args below meth c H1 locs1 cells slots Q (F0 m (pc + 3) ls rest)) : W p l e R s m args below meth c H locs cells slots Q (F0 m pc ls st0) := by
  refine va_callv (va_runSN F hM cw ⟨PcG_blind _ _ _, fun U hU hWm => PcG_of hW hU hWm⟩ rfl hn hls hst hroom hdg hf) hS (fun q _ h => h) (fun q h => h) (fun u t H1 locs1 ht hvm hw hB hz hk hS1 => ?_)
  have hB' : BcG G M' t := hB
  unfold BcG at hB'; rw [ht] at hB'
  exact kk H1 locs1 (hW.back hB'.1 hB'.2 hk) hS1
/-! given rows, given fields -/
theorem k_ti {t N : Nat} {f : Nat → Int} {i : Int} (hx : p.tables.exec = Jvm.exec) (hb : c.code = cc) (hT : va_T .int t N (fun j => .int (i3 (f j))) (PA G) s H) (hi : inR i) (h0 : 0 ≤ i) (h1 : i < (N : Int)) (hdg : decode cc pc = .ok (.iaload, 1)) (k : W p l e R s m args below meth c H locs cells slots Q (F0 m (pc + 1) ls (.int (i3 (f i.toNat)) :: rest))) : W p l e R s m args below meth c H locs cells slots Q (F0 m pc ls (.int (i3 i) :: .ref t :: rest)) := by
  obtain ⟨cell, g1, g2, g3, g4, g5, g6, g7⟩ := hT
  have hin := i3_in hi h0 h1
  have hlt : (i3 i).toNatClampNeg < N := Nat.not_le.mp fun q => hin (Or.inr q)
  refine W.iald (v := .int (i3 (f i.toNat))) hx hb g1 g2 g3 (fun q => hin (q.imp id fun z => Nat.le_trans g4 z)) (by rw [g6 _ hlt, i3_clamp hi]) rfl rfl hdg k
theorem k_tq {t N : Nat} {C : String} {f : Nat → Nat} {i : Int} (hx : p.tables.exec = Jvm.exec) (hb : c.code = cc) (hT : va_T (.object C) t N (fun j => .ref (f j)) (PA G) s H) (hi : inR i) (h0 : 0 ≤ i) (h1 : i < (N : Int)) (hdg : decode cc pc = .ok (.aaload, 1)) (k : W p l e R s m args below meth c H locs cells slots Q (F0 m (pc + 1) ls (.ref (f i.toNat) :: rest))) : W p l e R s m args below meth c H locs cells slots Q (F0 m pc ls (.int (i3 i) :: .ref t :: rest)) := by
  obtain ⟨cell, g1, g2, g3, g4, g5, g6, g7⟩ := hT
  have hin := i3_in hi h0 h1
  have hlt : (i3 i).toNatClampNeg < N := Nat.not_le.mp fun q => hin (Or.inr q)
  refine W.aald (v := .ref (f i.toNat)) (ty := .object C) hx hb g1 g2 rfl g3 (fun q => hin (q.imp id fun z => Nat.le_trans g4 z)) (by rw [g6 _ hlt, i3_clamp hi]) rfl rfl hdg k
theorem k_tb {t N : Nat} {f : Nat → Value} {i : Int32} {v : Value} (hx : p.tables.exec = Jvm.exec) (hb : c.code = cc) (hT : va_T .byte t N f (PA G) s H) (hin : vp_in i N) (hv : f i.toNatClampNeg = v) (hdg : decode cc pc = .ok (.baload, 1)) (k : W p l e R s m args below meth c H locs cells slots Q (F0 m (pc + 1) ls (v :: rest))) : W p l e R s m args below meth c H locs cells slots Q (F0 m pc ls (.int i :: .ref t :: rest)) := by
  obtain ⟨cell, g1, g2, g3, g4, g5, g6, g7⟩ := hT
  have hlt : i.toNatClampNeg < N := Nat.not_le.mp fun q => hin (Or.inr q)
  exact W.bald (v := v) hx hb g1 g2 g3 (fun q => hin (q.imp id fun z => Nat.le_trans g4 z)) (by rw [g6 _ hlt, hv]) rfl rfl hdg k
theorem k_tlen {t N : Nat} {ty : FieldType} {f : Nat → Value} {v : Int} (hx : p.tables.exec = Jvm.exec) (hb : c.code = cc) (hT : va_T ty t N f (PA G) s H) (hv : (N : Int) = v) (hdg : decode cc pc = .ok (.arraylength, 1)) (k : W p l e R s m args below meth c H locs cells slots Q (F0 m (pc + 1) ls (.int (i3 v) :: rest))) : W p l e R s m args below meth c H locs cells slots Q (F0 m pc ls (.ref t :: rest)) := by
  subst hv
  obtain ⟨cell, g1, g2, g3, g4, g5, g6, g7⟩ := hT
  exact W.alen (n := i3 (N : Int)) hx hb g1 g2 (by rw [g5, i3_nat]) rfl rfl hdg k
theorem k_gets {C n d : String} {v : Value} (hx : p.tables.exec = Jvm.exec) (hb : c.code = cc) (hZ : va_Z C n d v (PA G) s H) (hown : s.vm.findClass own = some m.cls) (hlink : (Cond.fieldLink own index C n d).before args s = true) (hdg : decode cc pc = .ok (.getstatic index, 3)) (k : W p l e R s m args below meth c H locs cells slots Q (F0 m (pc + 3) ls (v :: rest))) : W p l e R s m args below meth c H locs cells slots Q (F0 m pc ls rest) := by
  obtain ⟨cf, kf, fi, f, a, cell, g1, g2, g3, g4, g5, g6, g7, g8⟩ := hZ
  exact W.gets hx hb hown hlink g1 g2 g3 g4 g5 (fun q => by rw [q] at g6; cases g6) g7 rfl hdg k
theorem k_getsN {C n d host : String} {v : Value} (hx : p.tables.exec = Jvm.exec) (hb : c.code = cc) (hZ : va_Z C n d v (PA G) s H) (hown : s.vm.findClass own = some m.cls) (hlink : (Cond.fieldLinkNest own index C n d host).before args s = true) (hdg : decode cc pc = .ok (.getstatic index, 3)) (k : W p l e R s m args below meth c H locs cells slots Q (F0 m (pc + 3) ls (v :: rest))) : W p l e R s m args below meth c H locs cells slots Q (F0 m pc ls rest) := by
  obtain ⟨cf, kf, fi, f, a, cell, g1, g2, g3, g4, g5, g6, g7, g8⟩ := hZ
  exact va_WgetsN hx hb hown hlink g1 g2 g3 g4 g5 (fun q => by rw [q] at g6; cases g6) g7 rfl hdg k
theorem k_getO {o n d : String} {q : Nat} {v : Value} (hx : p.tables.exec = Jvm.exec) (hb : c.code = cc) (hE : va_OF o n d v q (PA G) s H) (hown : s.vm.findClass own = some m.cls) (hlink : (Cond.fieldLink own index o n d).before args s = true) (hdg : decode cc pc = .ok (.getfield index, 3)) (k : W p l e R s m args below meth c H locs cells slots Q (F0 m (pc + 3) ls (v :: rest))) : W p l e R s m args below meth c H locs cells slots Q (F0 m pc ls (.ref q :: rest)) := by
  obtain ⟨cf, kf, fi, f, cell, g1, g2, g3, g4, g5, g6⟩ := hE
  exact W.getf hx hb hown hlink g1 g2 g3 g4 (v := v) g5 rfl rfl hdg k
/-- a wall of the row of walls -/
theorem k_aald {i : Int} (hx : p.tables.exec = Jvm.exec) (hb : c.code = cc) (hW : Wd G M s H) (hi : inR i) (h0 : 0 ≤ i) (h1 : i < 8) (hdg : decode cc pc = .ok (.aaload, 1)) (k : W p l e R s m args below meth c H locs cells slots Q (F0 m (pc + 1) ls (.ref (gA G (5 + (3 + i.toNat))) :: rest))) : W p l e R s m args below meth c H locs cells slots Q (F0 m pc ls (.int (i3 i) :: .ref (gA G 4) :: rest)) := by
  have he : (pW G M)[4]? = some (gA G 4, .inl (G.2.2.1, 8, .inr (.inr (.inr (.inr (fun j => some (gA G (5 + (3 + j))))))))) := by rw [pW_get G M (by decide)]; rfl
  refine va_aldq hx hb hW.K hW.P 4 1 he rfl (i3_in hi h0 h1) hdg ?_
  rw [i3_clamp hi]
  exact k
theorem k_walen (hx : p.tables.exec = Jvm.exec) (hb : c.code = cc) (hW : Wd G M s H) (hdg : decode cc pc = .ok (.arraylength, 1)) (k : W p l e R s m args below meth c H locs cells slots Q (F0 m (pc + 1) ls (.int (i3 8) :: rest))) : W p l e R s m args below meth c H locs cells slots Q (F0 m pc ls (.ref (gA G 4) :: rest)) := by
  have he : (pW G M)[4]? = some (gA G 4, .inl (G.2.2.1, 8, .inr (.inr (.inr (.inr (fun j => some (gA G (5 + (3 + j))))))))) := by rw [pW_get G M (by decide)]; rfl
  exact va_alen hx hb hW.K hW.P 4 1 he rfl (i3_nat 8) hdg k
end KR
theorem ent_wall {k : Nat} (hk : k < 11) (G : gG) (f : Nat → Int) : entF G f (5 + k) = .inr (3, [.ref (gA G (16 + 6 * k)), .ref (gA G (16 + 6 * k + 1)), .ref (gA G (16 + 6 * k + 2)), .ref (gA G (16 + 6 * k + 3)), .ref (gA G (16 + 6 * k + 4)), .ref (gA G (16 + 6 * k + 5))]) := by
  unfold entF
  rw [if_neg (by omega), if_pos (by omega), show 5 + k - 5 = k by omega]
theorem he_wall {k : Nat} (hk : k < 11) (G : gG) (M : MemG) : (pW G M)[5 + k]? = some (gA G (5 + k), .inr (3, [.ref (gA G (16 + 6 * k)), .ref (gA G (16 + 6 * k + 1)), .ref (gA G (16 + 6 * k + 2)), .ref (gA G (16 + 6 * k + 3)), .ref (gA G (16 + 6 * k + 4)), .ref (gA G (16 + 6 * k + 5))])) := by
  rw [pW_get G M (by omega), ent_wall hk]
theorem he_G (G : gG) (M : MemG) : (pW G M)[0]? = some (gA G 0, .inr (4, [.ref (gA G 5), .ref (gA G 6), .ref (gA G 7), .int (i3 (M 0 3)), .ref (gA G 1), .ref (gA G 2), .ref (gA G 3), .int (i3 (M 0 7)), .int (i3 (M 0 8)), .ref (gA G 85)])) := by rw [pW_get G M (by decide)]; rfl
theorem he_P (G : gG) (M : MemG) : (pW G M)[1]? = some (gA G 1, .inr (2, [.ref (gA G 4), .int (i3 (M 1 1)), .int (i3 (M 1 2))])) := by rw [pW_get G M (by decide)]; rfl
theorem he_T (G : gG) (M : MemG) : (pW G M)[2]? = some (gA G 2, .inr (0, [.ref (gA G 82), .int (i3 (M 2 1)), .ref (gA G 83), .int (i3 (M 2 3)), .int (i3 (M 2 4)), .int (i3 (M 2 5))])) := by rw [pW_get G M (by decide)]; rfl
theorem he_N (G : gG) (M : MemG) : (pW G M)[3]? = some (gA G 3, .inr (1, [.ref (gA G 84), .int (i3 (M 3 1))])) := by rw [pW_get G M (by decide)]; rfl
theorem rv_wall {k : Nat} (hk : k < 11) {G : gG} {M : MemG} {s : State} {H : Heap} (h : Wd G M s H) : ∃ cell : Cell, H[gA G (5 + k)]? = some cell ∧ cell.vm.isStatics = false ∧ s.vm.findClass RX3 = some cell.cls := va_recv (q := (RX3, TX3, 6)) h.K h.P rfl (he_wall hk G M)
theorem rv_G {G : gG} {M : MemG} {s : State} {H : Heap} (h : Wd G M s H) : ∃ cell : Cell, H[gA G 0]? = some cell ∧ cell.vm.isStatics = false ∧ s.vm.findClass RX4 = some cell.cls := va_recv (q := (RX4, TX4, 10)) h.K h.P rfl (he_G G M)
theorem rv_P {G : gG} {M : MemG} {s : State} {H : Heap} (h : Wd G M s H) : ∃ cell : Cell, H[gA G 1]? = some cell ∧ cell.vm.isStatics = false ∧ s.vm.findClass RX2 = some cell.cls := va_recv (q := (RX2, TX2, 3)) h.K h.P rfl (he_P G M)
theorem rv_T {G : gG} {M : MemG} {s : State} {H : Heap} (h : Wd G M s H) : ∃ cell : Cell, H[gA G 2]? = some cell ∧ cell.vm.isStatics = false ∧ s.vm.findClass RX0 = some cell.cls := va_recv (q := (RX0, TX0, 6)) h.K h.P rfl (he_T G M)
theorem rv_N {G : gG} {M : MemG} {s : State} {H : Heap} (h : Wd G M s H) : ∃ cell : Cell, H[gA G 3]? = some cell ∧ cell.vm.isStatics = false ∧ s.vm.findClass RX1 = some cell.cls := va_recv (q := (RX1, TX1, 2)) h.K h.P rfl (he_N G M)
theorem rv_S {i : Nat} (hi : i < 26) {G : gG} {M : MemG} {s : State} {H : Heap} (h : Wd G M s H) : ∃ cell : Cell, H[gA G (100 + i)]? = some cell ∧ cell.vm.isStatics = false ∧ s.vm.findClass "java/lang/String" = some cell.cls := by
  obtain ⟨cell, h1, h2, h3, -⟩ := (h.S.2.2.2.2.1.1 i hi).1
  exact ⟨cell, h1, h2, h3⟩
theorem i3_min {a b : Int} (ha : inR a) (hb : inR b) : (if i3 b < i3 a then i3 b else i3 a) = i3 (min a b) := by
  by_cases h : b < a
  · rw [if_pos ((i3_lt hb ha).mpr h), show min a b = b by omega]
  · rw [if_neg (fun q => h ((i3_lt hb ha).mp q)), show min a b = a by omega]
theorem i3_max {a b : Int} (ha : inR a) (hb : inR b) : (if i3 a < i3 b then i3 b else i3 a) = i3 (max a b) := by
  by_cases h : a < b
  · rw [if_pos ((i3_lt ha hb).mpr h), show max a b = b by omega]
  · rw [if_neg (fun q => h ((i3_lt ha hb).mp q)), show max a b = a by omega]
theorem inR_min {a b : Int} (ha : inR a) (hb : inR b) : inR (min a b) := by
  have := ha.1; have := ha.2; have := hb.1; have := hb.2
  constructor <;> omega
theorem inR_max {a b : Int} (ha : inR a) (hb : inR b) : inR (max a b) := by
  have := ha.1; have := ha.2; have := hb.1; have := hb.2
  constructor <;> omega
def lcI (a b : Int64) : Int := (lg_cmp a b).toInt
def fcI (a b : UInt32) : Int := (Op.cmpValue (FP.fcmp a b) CmpOp.l).toInt
def dcI (a b : UInt64) : Int := (Op.cmpValue (FP.dcmp a b) CmpOp.l).toInt
/-- a division of floats, of doubles, that answers a number -/
def gff {α : Type} (x : UInt32) (k : Option α) : Option α := if x &&& 0x7fffffff ≤ 0x7f800000 then k else none
theorem gff_el {α : Type} {x : UInt32} {k : Option α} {r : α} (h : gff x k = some r) : vf_n32 x ∧ k = some r := by
  unfold gff at h
  by_cases c : x &&& 0x7fffffff ≤ 0x7f800000
  · rw [if_pos c] at h; exact ⟨c, h⟩
  · rw [if_neg c] at h; cases h
def gdd {α : Type} (x : UInt64) (k : Option α) : Option α := if x &&& 0x7fffffffffffffff ≤ 0x7ff0000000000000 then k else none
theorem gdd_el {α : Type} {x : UInt64} {k : Option α} {r : α} (h : gdd x k = some r) : vf_n64 x ∧ k = some r := by
  unfold gdd at h
  by_cases c : x &&& 0x7fffffffffffffff ≤ 0x7ff0000000000000
  · rw [if_pos c] at h; exact ⟨c, h⟩
  · rw [if_neg c] at h; cases h
section KT
variable {p : Program} {l : Launch} {e : Env} {R : Room} {s : State} {m : MethodId} {args : Array Value} {below : List Frame} {meth : Method} {c : Code} {H : Heap} {locs : List Loc} {cells slots : Nat} {Q : State → Prop} {cc : ByteArray} {pc : Nat} {ls : Array Slot} {rest : List Value}
theorem k_lcmp {x y : Int64} (hx : p.tables.exec = Jvm.exec) (hb : c.code = cc) (hdg : decode cc pc = .ok (.lcmp, 1)) (k : W p l e R s m args below meth c H locs cells slots Q (F0 m (pc + 1) ls (.int (i3 (lcI x y)) :: rest))) : W p l e R s m args below meth c H locs cells slots Q (F0 m pc ls (.long y :: .long x :: rest)) := W.lcmp hx hb hdg (by unfold lcI at k; rw [i3_of] at k; exact k)
theorem k_fcmp {x y : UInt32} (hx : p.tables.exec = Jvm.exec) (hb : c.code = cc) (hdg : decode cc pc = .ok (.fcmp .l, 1)) (k : W p l e R s m args below meth c H locs cells slots Q (F0 m (pc + 1) ls (.int (i3 (fcI x y)) :: rest))) : W p l e R s m args below meth c H locs cells slots Q (F0 m pc ls (.float y :: .float x :: rest)) := lv_fcmp hx hb hdg (by unfold fcI at k; rw [i3_of] at k; exact k)
theorem k_dcmp {x y : UInt64} (hx : p.tables.exec = Jvm.exec) (hb : c.code = cc) (hdg : decode cc pc = .ok (.dcmp .l, 1)) (k : W p l e R s m args below meth c H locs cells slots Q (F0 m (pc + 1) ls (.int (i3 (dcI x y)) :: rest))) : W p l e R s m args below meth c H locs cells slots Q (F0 m pc ls (.double y :: .double x :: rest)) := lv_dcmp hx hb hdg (by unfold dcI at k; rw [i3_of] at k; exact k)
theorem k_tin {x : Int} {dflt lo hi : Int} {offs : Array Int} {len : Nat} {off : Int} {tgt : Nat} (hx : p.tables.exec = Jvm.exec) (hb : c.code = cc) (hr : inR x) (hdg : decode cc pc = .ok (.tableswitch dflt lo hi offs, len)) (h1 : lo ≤ x) (h2 : x ≤ hi) (ho : offs[(x - lo).toNat]? = some off) (ht : (pc : Int) + off = (tgt : Int)) (k : W p l e R s m args below meth c H locs cells slots Q (F0 m tgt ls rest)) : W p l e R s m args below meth c H locs cells slots Q (F0 m pc ls (.int (i3 x) :: rest)) := lv_tableIn hx hb hdg (by rw [i3_toInt hr]; omega) (by rw [i3_toInt hr]; omega) (by rw [i3_toInt hr]; exact ho) ht k
theorem k_tout {x : Int} {dflt lo hi : Int} {offs : Array Int} {len : Nat} {tgt : Nat} (hx : p.tables.exec = Jvm.exec) (hb : c.code = cc) (hr : inR x) (hdg : decode cc pc = .ok (.tableswitch dflt lo hi offs, len)) (h : x < lo ∨ hi < x) (ht : (pc : Int) + dflt = (tgt : Int)) (k : W p l e R s m args below meth c H locs cells slots Q (F0 m tgt ls rest)) : W p l e R s m args below meth c H locs cells slots Q (F0 m pc ls (.int (i3 x) :: rest)) := lv_tableOut hx hb hdg (by rw [i3_toInt hr]; exact h) ht k
theorem k_tdef {x : Int} {dflt lo hi : Int} {offs : Array Int} {len : Nat} {tgt : Nat} (hx : p.tables.exec = Jvm.exec) (hb : c.code = cc) (hr : inR x) (hdg : decode cc pc = .ok (.tableswitch dflt lo hi offs, len)) (h : (x < lo ∨ hi < x) ∨ (lo ≤ x ∧ x ≤ hi ∧ offs[(x - lo).toNat]? = some dflt)) (ht : (pc : Int) + dflt = (tgt : Int)) (k : W p l e R s m args below meth c H locs cells slots Q (F0 m tgt ls rest)) : W p l e R s m args below meth c H locs cells slots Q (F0 m pc ls (.int (i3 x) :: rest)) := by
  rcases h with h | ⟨h1, h2, h3⟩
  · exact k_tout hx hb hr hdg h ht k
  · exact k_tin hx hb hr hdg h1 h2 h3 ht k
theorem k_min {own : String} {index : Nat} {a b : Int} (hx : p.tables.exec = Jvm.exec) (hb : c.code = cc) (hml : c.maxLocals = ls.size) (hown : s.vm.findClass own = some m.cls) (hlink : (Cond.methodLink own index Lib.Math.min.name).before args s = true) (hstat : (Cond.static Lib.Math.min.name).before args s = true) (hini : (Cond.initialized "java/lang/Math").before args s = true) (hcode : (Cond.code Lib.Math.min.name Lib.Math.min.code 2 (some .int)).before args s = true) (hframes : 1 ≤ R.frames) (hlocals : (rest.map fun v => v.category).sum + 13 ≤ R.locals) (hc : cells ≤ R.cells) (hs : slots ≤ R.slots) (ha : inR a) (hb2 : inR b) (hdg : decode cc pc = .ok (.invokestatic index, 3))
    (k : W p l e R s m args below meth c H locs cells slots Q (F0 m (pc + 3) ls (.int (i3 (min a b)) :: rest))) : W p l e R s m args below meth c H locs cells slots Q (F0 m pc ls (.int (i3 b) :: .int (i3 a) :: rest)) := va_mmin hx hb hml hown hlink hstat hini hcode hframes hlocals hc hs hdg (by rw [i3_min ha hb2]; exact k)
theorem k_max {own : String} {index : Nat} {a b : Int} (hx : p.tables.exec = Jvm.exec) (hb : c.code = cc) (hml : c.maxLocals = ls.size) (hown : s.vm.findClass own = some m.cls) (hlink : (Cond.methodLink own index Lib.Math.max.name).before args s = true) (hstat : (Cond.static Lib.Math.max.name).before args s = true) (hini : (Cond.initialized "java/lang/Math").before args s = true) (hcode : (Cond.code Lib.Math.max.name Lib.Math.max.code 2 (some .int)).before args s = true) (hframes : 1 ≤ R.frames) (hlocals : (rest.map fun v => v.category).sum + 13 ≤ R.locals) (hc : cells ≤ R.cells) (hs : slots ≤ R.slots) (ha : inR a) (hb2 : inR b) (hdg : decode cc pc = .ok (.invokestatic index, 3))
    (k : W p l e R s m args below meth c H locs cells slots Q (F0 m (pc + 3) ls (.int (i3 (max a b)) :: rest))) : W p l e R s m args below meth c H locs cells slots Q (F0 m pc ls (.int (i3 b) :: .int (i3 a) :: rest)) := va_mmax hx hb hml hown hlink hstat hini hcode hframes hlocals hc hs hdg (by rw [i3_max ha hb2]; exact k)
end KT
/-! an object of the pool with another number in a field -/
theorem pe_0 (G : gG) (f : Nat → Int) : entF G f 0 = .inr (4, [.ref (gA G 5), .ref (gA G 6), .ref (gA G 7), .int (i3 (f 3)), .ref (gA G 1), .ref (gA G 2), .ref (gA G 3), .int (i3 (f 7)), .int (i3 (f 8)), .ref (gA G 85)]) := rfl
theorem pu_0_3 (G : gG) (M : MemG) (x : Int) : entF G (up M 0 3 x 0) 0 = .inr (4, [.ref (gA G 5), .ref (gA G 6), .ref (gA G 7), .int (i3 x), .ref (gA G 1), .ref (gA G 2), .ref (gA G 3), .int (i3 (M 0 7)), .int (i3 (M 0 8)), .ref (gA G 85)]) := by simp [entF, up]
theorem pu_0_7 (G : gG) (M : MemG) (x : Int) : entF G (up M 0 7 x 0) 0 = .inr (4, [.ref (gA G 5), .ref (gA G 6), .ref (gA G 7), .int (i3 (M 0 3)), .ref (gA G 1), .ref (gA G 2), .ref (gA G 3), .int (i3 x), .int (i3 (M 0 8)), .ref (gA G 85)]) := by simp [entF, up]
theorem pu_0_8 (G : gG) (M : MemG) (x : Int) : entF G (up M 0 8 x 0) 0 = .inr (4, [.ref (gA G 5), .ref (gA G 6), .ref (gA G 7), .int (i3 (M 0 3)), .ref (gA G 1), .ref (gA G 2), .ref (gA G 3), .int (i3 (M 0 7)), .int (i3 x), .ref (gA G 85)]) := by simp [entF, up]
theorem pe_1 (G : gG) (f : Nat → Int) : entF G f 1 = .inr (2, [.ref (gA G 4), .int (i3 (f 1)), .int (i3 (f 2))]) := rfl
theorem pu_1_1 (G : gG) (M : MemG) (x : Int) : entF G (up M 1 1 x 1) 1 = .inr (2, [.ref (gA G 4), .int (i3 x), .int (i3 (M 1 2))]) := by simp [entF, up]
theorem pu_1_2 (G : gG) (M : MemG) (x : Int) : entF G (up M 1 2 x 1) 1 = .inr (2, [.ref (gA G 4), .int (i3 (M 1 1)), .int (i3 x)]) := by simp [entF, up]
theorem pe_2 (G : gG) (f : Nat → Int) : entF G f 2 = .inr (0, [.ref (gA G 82), .int (i3 (f 1)), .ref (gA G 83), .int (i3 (f 3)), .int (i3 (f 4)), .int (i3 (f 5))]) := rfl
theorem pu_2_1 (G : gG) (M : MemG) (x : Int) : entF G (up M 2 1 x 2) 2 = .inr (0, [.ref (gA G 82), .int (i3 x), .ref (gA G 83), .int (i3 (M 2 3)), .int (i3 (M 2 4)), .int (i3 (M 2 5))]) := by simp [entF, up]
theorem pu_2_3 (G : gG) (M : MemG) (x : Int) : entF G (up M 2 3 x 2) 2 = .inr (0, [.ref (gA G 82), .int (i3 (M 2 1)), .ref (gA G 83), .int (i3 x), .int (i3 (M 2 4)), .int (i3 (M 2 5))]) := by simp [entF, up]
theorem pu_2_4 (G : gG) (M : MemG) (x : Int) : entF G (up M 2 4 x 2) 2 = .inr (0, [.ref (gA G 82), .int (i3 (M 2 1)), .ref (gA G 83), .int (i3 (M 2 3)), .int (i3 x), .int (i3 (M 2 5))]) := by simp [entF, up]
theorem pu_2_5 (G : gG) (M : MemG) (x : Int) : entF G (up M 2 5 x 2) 2 = .inr (0, [.ref (gA G 82), .int (i3 (M 2 1)), .ref (gA G 83), .int (i3 (M 2 3)), .int (i3 (M 2 4)), .int (i3 x)]) := by simp [entF, up]
theorem pe_3 (G : gG) (f : Nat → Int) : entF G f 3 = .inr (1, [.ref (gA G 84), .int (i3 (f 1))]) := rfl
theorem pu_3_1 (G : gG) (M : MemG) (x : Int) : entF G (up M 3 1 x 3) 3 = .inr (1, [.ref (gA G 84), .int (i3 x)]) := by simp [entF, up]
theorem inR_len (a : Nat) : inR (lenA a : Nat) := by
  have := lenA_le a
  constructor <;> omega
theorem inR_tab (a j : Nat) : inR (tabS a j) := by
  have h : ∀ (l : List Int), (∀ x ∈ l, inR x) → ∀ j, inR (l.getD j 0) := by
    intro l hl j
    rw [List.getD_eq_getElem?_getD]
    cases hj : l[j]? with
    | none => exact inR_0
    | some x => exact hl x (List.mem_of_getElem? hj)
  unfold tabS
  by_cases c : a = 86
  · rw [if_pos c]; exact h _ (by decide) j
  · rw [if_neg c]; exact h _ (by decide) j
