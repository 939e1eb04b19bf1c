/-! ===== words, numbers, signs: by place ===== -/
def isLt (c : Int) : Bool := decide (97 ≤ c ∧ c ≤ 122)
def isDg (c : Int) : Bool := decide (48 ≤ c ∧ c ≤ 57)
def isBk (c : Int) : Bool := decide (c = 10 ∨ c = 32)
def skp (p : Nat → Bool) : Nat → Nat → Nat
  | 0, k => k
  | r + 1, k => if p k then skp p r (k + 1) else k
theorem skp_spec (p : Nat → Bool) : ∀ r k, k ≤ skp p r k ∧ skp p r k ≤ k + r ∧ (∀ j, k ≤ j → j < skp p r k → p j = true) ∧ (skp p r k < k + r → p (skp p r k) = false) := by
  intro r
  induction r with
  | zero => intro k; exact ⟨Nat.le_refl k, by show k ≤ k + 0; omega, fun j h1 h2 => by have h2 : j < k := h2; omega, fun h => by have h : k < k + 0 := h; omega⟩
  | succ r ih =>
    intro k
    unfold skp
    split
    · next y =>
      obtain ⟨a, b, c, d⟩ := ih (k + 1)
      refine ⟨by omega, by omega, fun j h1 h2 => ?_, fun h => d (by omega)⟩
      by_cases z : j = k
      · subst z; exact y
      · exact c j (by omega) h2
    · next y => exact ⟨Nat.le_refl k, by omega, fun j h1 h2 => by omega, fun _ => by revert y; cases p k <;> simp⟩
def sk1 (p : Nat → Bool) (L k : Nat) : Nat := skp p (L - k) k
theorem sk1_step {p : Nat → Bool} {L k : Nat} (hk : k < L) (hp : p k = true) : sk1 p L k = sk1 p L (k + 1) := by
  unfold sk1
  rw [show L - k = (L - (k + 1)) + 1 by omega]
  show (if p k then skp p (L - (k + 1)) (k + 1) else k) = _
  rw [if_pos hp]
theorem sk1_stop {p : Nat → Bool} {L k : Nat} (h : L ≤ k ∨ p k = false) : sk1 p L k = k := by
  unfold sk1
  by_cases hk : L ≤ k
  · rw [show L - k = 0 by omega]; rfl
  · rw [show L - k = (L - (k + 1)) + 1 by omega]
    show (if p k then skp p (L - (k + 1)) (k + 1) else k) = _
    rw [if_neg (by rw [h.resolve_left hk]; decide)]
theorem sk1_spec (p : Nat → Bool) {L k : Nat} (hk : k ≤ L) : k ≤ sk1 p L k ∧ sk1 p L k ≤ L ∧ (∀ j, k ≤ j → j < sk1 p L k → p j = true) ∧ (sk1 p L k < L → p (sk1 p L k) = false) := by
  obtain ⟨a, b, c, d⟩ := skp_spec p (L - k) k
  exact ⟨a, by unfold sk1; omega, c, fun h => d (by unfold sk1 at h; omega)⟩
def tAt (T : Nat → Int) (L e : Nat) : Nat := sk1 (fun k => isBk (T k)) L e
def wEn (T : Nat → Int) (L a : Nat) : Nat := sk1 (fun k => isLt (T k)) L a
def nEn (T : Nat → Int) (L a : Nat) : Nat := sk1 (fun k => isDg (T k)) L a
def lts (T : Nat → Int) (a : Nat) : Nat → List Nat
  | 0 => []
  | n + 1 => lts T a n ++ [(T (a + n) - 96).toNat]
def nvs (T : Nat → Int) (a : Nat) : Nat → Int
  | 0 => 0
  | n + 1 => 10 * nvs T a n + (T (a + n) - 48)
def OW : List (List Nat) := [[3, 8, 9, 12, 4], [3, 12, 1, 25], [7, 18, 9, 20], [11, 9, 12, 14], [18, 15, 15, 13], [20, 5, 13, 16, 5, 18], [3, 18, 1, 3, 11, 19], [19, 20, 9, 3, 11, 19], [2, 21, 18, 14, 19], [6, 21, 5, 12], [12, 15, 1, 4], [23, 9, 14, 4], [8, 5, 1, 20], [23, 5, 5, 11], [16, 12, 1, 3, 5], [18, 9, 14, 7, 19], [14, 5, 1, 18], [7, 18, 9, 20, 19], [6, 21, 12, 12], [9, 6], [15, 18], [1, 14, 4], [14, 15, 20], [1, 12, 12], [13, 9, 14], [13, 1, 24]]
def own256 : List Int := [426953501796, 1668047225, 1735551348, 1802071150, 1919905645, 127978976601458, 109342911327091, 126943821523827, 422877228659, 1718969708, 1819238756, 2003398244, 1751474548, 2003133803, 482854658917, 491395114867, 1852137842, 444301145203, 1718971500, 26982, 28530, 6385252, 7237492, 6384748, 7170414, 7168376]
def tokV (v : Int) : Int := if m_fst (fun k => ownL.getD k 0 == v) 0 26 = -1 then 282 else 256 + m_fst (fun k => ownL.getD k 0 == v) 0 26
def tNm (T : Nat → Int) (L e : Nat) : List Nat := lts T (tAt T L e) (wEn T L (tAt T L e) - tAt T L e)
def tTk (T : Nat → Int) (L e : Nat) : Int := if L ≤ tAt T L e then 284 else if isLt (T (tAt T L e)) then tokV (nm27 (tNm T L e) 5) else if isDg (T (tAt T L e)) then 283 else T (tAt T L e)
def tEn (T : Nat → Int) (L e : Nat) : Nat := if L ≤ tAt T L e then tAt T L e else if isLt (T (tAt T L e)) then wEn T L (tAt T L e) else if isDg (T (tAt T L e)) then nEn T L (tAt T L e) else tAt T L e + 1
def tVal (T : Nat → Int) (L e : Nat) : Int := nvs T (tAt T L e) (nEn T L (tAt T L e) - tAt T L e)
def pvA (T : Nat → Int) (a : Nat) : Bool := decide (0 < a) && (isLt (T (a - 1)) || isDg (T (a - 1)))
def tLf (T : Nat → Int) (L e : Nat) : Int :=
  if L ≤ tAt T L e then -1 else if isLt (T (tAt T L e)) then (if pvA T (tAt T L e) then (tAt T L e : Int) else if 6 < wEn T L (tAt T L e) - tAt T L e then ((tAt T L e + 6 : Nat) : Int) else -1)
  else if isDg (T (tAt T L e)) then (if pvA T (tAt T L e) then (tAt T L e : Int) else if 4 < nEn T L (tAt T L e) - tAt T L e then ((tAt T L e + 4 : Nat) : Int) else -1) else -1
theorem lts_len (T : Nat → Int) (a : Nat) : ∀ n, (lts T a n).length = n := by
  intro n
  induction n with
  | zero => rfl
  | succ n ih => unfold lts; rw [List.length_append, ih]; rfl
theorem lts_in {T : Nat → Int} {a : Nat} : ∀ n, (∀ j, a ≤ j → j < a + n → isLt (T j) = true) → ∀ x ∈ lts T a n, 1 ≤ x ∧ x ≤ 26 := by
  intro n
  induction n with
  | zero => intro _ x hx; exact absurd hx (by unfold lts; simp)
  | succ n ih =>
    intro h x hx
    unfold lts at hx
    rw [List.mem_append] at hx
    rcases hx with hx | hx
    · exact ih (fun j h1 h2 => h j h1 (by omega)) x hx
    · have hx : x = (T (a + n) - 96).toNat := by simpa using hx
      have := h (a + n) (by omega) (by omega)
      unfold isLt at this
      have := of_decide_eq_true this
      omega
theorem nm27_app : ∀ (l : List Nat) (x j : Nat), l.length ≤ j → nm27 (l ++ [x]) j = nm27 l j + x * 27 ^ (j - l.length) := by
  intro l
  induction l with
  | nil => intro x j _; simp [nm27]
  | cons a r ih =>
    intro x j hj
    have hj : r.length + 1 ≤ j := hj
    show a * 27 ^ j + nm27 (r ++ [x]) (j - 1) = a * 27 ^ j + nm27 r (j - 1) + x * 27 ^ (j - (r.length + 1))
    rw [ih x (j - 1) (by omega), show j - 1 - r.length = j - (r.length + 1) by omega]
    omega
theorem nm256_app : ∀ (l : List Nat) (x a : Nat), nm256 (l ++ [x]) a = nm256 l a * 256 + (96 + x) := by
  intro l
  induction l with
  | nil => intro x a; rfl
  | cons b r ih => intro x a; exact ih x (a * 256 + (96 + b))
theorem getD_ext {l l' : List Nat} (h : isNm l) (h' : isNm l') (e : ∀ k, k < 6 → l.getD k 0 = l'.getD k 0) : l = l' := by
  have el : ∀ {l : List Nat}, isNm l → ∀ k, k < l.length → 1 ≤ l.getD k 0 := fun {l} hl k hk => by
    have : l.getD k 0 = l[k] := by simp [List.getD, hk]
    rw [this]
    exact (hl.2.2 _ (List.getElem_mem hk)).1
  have eo : ∀ {l : List Nat} (k : Nat), l.length ≤ k → l.getD k 0 = 0 := fun {l} k hk => by simp [List.getD, List.getElem?_eq_none hk]
  have hl : l.length = l'.length := by
    apply Classical.byContradiction
    intro hne
    have a1 := h.2.1
    have a2 := h'.2.1
    by_cases y : l.length < l'.length
    · have := el h' l.length y
      have := eo (l := l) l.length (Nat.le_refl _)
      have := e l.length (by omega)
      omega
    · have := el h l'.length (by omega)
      have := eo (l := l') l'.length (Nat.le_refl _)
      have := e l'.length (by omega)
      omega
  refine List.ext_getElem hl (fun k h1 h2 => ?_)
  have e1 : l.getD k 0 = l[k] := by simp [List.getD, h1]
  have e2 : l'.getD k 0 = l'[k] := by simp [List.getD, h2]
  have a1 := h.2.1
  rw [← e1, ← e2]
  exact e k (by omega)
theorem nm27_inj {l l' : List Nat} (h : isNm l) (h' : isNm l') (e : nm27 l 5 = nm27 l' 5) : l = l' := by
  have f := (nm_facts h).1
  have f' := (nm_facts h').1
  exact getD_ext h h' (fun k hk => by rw [← f k hk, ← f' k hk, e])
theorem nm256_inj {l l' : List Nat} (h : isNm l) (h' : isNm l') (e : nm256 l 0 = nm256 l' 0) : l = l' := by
  obtain ⟨-, fA, fB, fC, -, -, -, fF⟩ := nm_facts h
  obtain ⟨-, gA, gB, gC, -, -, -, gF⟩ := nm_facts h'
  have hl : l.length = l'.length := by
    apply Classical.byContradiction
    intro hne
    by_cases y : l.length < l'.length
    · have := gA l.length y
      rw [← e, fB] at this
      omega
    · have := fA l'.length (by omega)
      rw [e, gB] at this
      omega
  refine getD_ext h h' (fun k hk => ?_)
  by_cases y : k < l.length
  · have a := fC k y
    have b := gC k (by omega)
    rw [← hl, ← e] at b
    omega
  · rw [fF k hk (by omega), gF k hk (by omega)]
theorem ow_all : ∀ k, k < 26 → (1 ≤ (OW.getD k []).length ∧ (OW.getD k []).length ≤ 6) ∧ (∀ i, i < 6 → (OW.getD k []).getD i 1 ≤ 26 ∧ 1 ≤ (OW.getD k []).getD i 1) ∧ (nm27 (OW.getD k []) 5 : Int) = ownL.getD k 0 ∧ (nm256 (OW.getD k []) 0 : Int) = own256.getD k 0 := by decide +kernel
theorem ow_nm {k : Nat} (hk : k < 26) : isNm (OW.getD k []) := by
  obtain ⟨h1, h2, -⟩ := ow_all k hk
  refine ⟨h1.1, h1.2, fun x hx => ?_⟩
  obtain ⟨i, hi, e⟩ := List.getElem_of_mem hx
  have := h2 i (by omega)
  have gd : ∀ (l : List Nat) (i : Nat) (hi : i < l.length), l.getD i 1 = l[i] := fun l i hi => by simp [List.getD, hi]
  have e1 := gd _ i hi
  rw [e1, e] at this
  omega
theorem ownL_inj : ∀ j, j < 26 → ∀ k, k < 26 → ownL.getD j 0 = ownL.getD k 0 → j = k := by decide +kernel
theorem tokV_iff {v : Int} {k : Nat} (hk : k < 26) : tokV v = 256 + (k : Int) ↔ v = ownL.getD k 0 := by
  unfold tokV
  rcases m_fst_spec (fun k => ownL.getD k 0 == v) 26 0 with ⟨z, y⟩ | ⟨j, z, h1, h2, h3, -⟩
  · rw [if_pos z]
    constructor
    · intro h; omega
    · intro h
      have := y k (by omega) (by omega)
      simp [h] at this
  · rw [if_neg (by omega), z]
    have h3 : ownL.getD j 0 = v := by simpa using h3
    constructor
    · intro h
      have : j = k := by omega
      rw [← this]; exact h3.symm
    · intro h
      have := ownL_inj j (by omega) k hk (by rw [h3, h])
      omega
theorem tokV_in (v : Int) : 256 ≤ tokV v ∧ tokV v ≤ 282 := by
  unfold tokV
  rcases m_fst_spec (fun k => ownL.getD k 0 == v) 26 0 with ⟨z, -⟩ | ⟨j, z, h1, h2, -⟩
  · rw [if_pos z]; omega
  · rw [if_neg (by omega), z]; omega
/-- a word of the reference is an own word just where the class's is -/
theorem tok_256 {l : List Nat} (hl : isNm l) {k : Nat} (hk : k < 26) : (nm256 l 0 : Int) = own256.getD k 0 ↔ tokV (nm27 l 5) = 256 + (k : Int) := by
  obtain ⟨-, -, h3, h4⟩ := ow_all k hk
  rw [tokV_iff hk, ← h3, ← h4]
  constructor
  · intro h
    have : nm256 l 0 = nm256 (OW.getD k []) 0 := by omega
    rw [nm256_inj hl (ow_nm hk) this]
  · intro h
    have : nm27 l 5 = nm27 (OW.getD k []) 5 := by omega
    rw [nm27_inj hl (ow_nm hk) this]
section TKL
variable {T : Nat → Int} {L e : Nat}
theorem tAt_in (he : e ≤ L) : e ≤ tAt T L e ∧ tAt T L e ≤ L := ⟨(sk1_spec _ he).1, (sk1_spec _ he).2.1⟩
theorem tNm_ok (he : e ≤ L) (hL : tAt T L e < L) (h : isLt (T (tAt T L e)) = true) (hf : tLf T L e = -1) : isNm (tNm T L e) ∧ (tNm T L e).length = wEn T L (tAt T L e) - tAt T L e := by
  have hw := sk1_spec (fun k => isLt (T k)) (L := L) (k := tAt T L e) (by omega)
  have h1 : tAt T L e + 1 ≤ wEn T L (tAt T L e) := by
    have h2 : wEn T L (tAt T L e) = wEn T L (tAt T L e + 1) := sk1_step hL h
    have := (sk1_spec (fun k => isLt (T k)) (L := L) (k := tAt T L e + 1) (by omega)).1
    unfold wEn at h2 ⊢
    omega
  unfold tLf at hf
  rw [if_neg (by omega), if_pos h] at hf
  have h6 : ¬ 6 < wEn T L (tAt T L e) - tAt T L e := fun z => by
    split at hf
    · omega
    · omega
  have hl : (tNm T L e).length = wEn T L (tAt T L e) - tAt T L e := lts_len T _ _
  exact ⟨⟨by omega, by omega, lts_in _ (fun j a b => hw.2.2.1 j a (by unfold wEn at b; omega))⟩, hl⟩
theorem tEn_in (he : e ≤ L) : tAt T L e ≤ tEn T L e ∧ tEn T L e ≤ L ∧ (tAt T L e < L → tAt T L e < tEn T L e) := by
  have ha := tAt_in (T := T) he
  unfold tEn
  by_cases h : L ≤ tAt T L e
  · rw [if_pos h]; omega
  · rw [if_neg h]
    split
    · next y =>
      have h2 : wEn T L (tAt T L e) = wEn T L (tAt T L e + 1) := sk1_step (by omega) y
      have := sk1_spec (fun k => isLt (T k)) (L := L) (k := tAt T L e + 1) (by omega)
      unfold wEn at h2 ⊢
      omega
    · split
      · next y =>
        have h2 : nEn T L (tAt T L e) = nEn T L (tAt T L e + 1) := sk1_step (by omega) y
        have := sk1_spec (fun k => isDg (T k)) (L := L) (k := tAt T L e + 1) (by omega)
        unfold nEn at h2 ⊢
        omega
      · omega
end TKL
theorem sg_lt {x : Int} (h : 0 ≤ x ∧ x ≤ 255) : (97 ≤ sg x ∧ sg x ≤ 122 ↔ 97 ≤ x ∧ x ≤ 122) ∧ (48 ≤ sg x ∧ sg x ≤ 57 ↔ 48 ≤ x ∧ x ≤ 57) ∧ (sg x = 10 ↔ x = 10) ∧ (sg x = 32 ↔ x = 32) := by
  unfold sg
  split <;> refine ⟨by omega, by omega, by omega, by omega⟩
section LXC
variable {G : m_G} {d : Nat} {μ : m_M} {x : Int} {K : Int → m_M → Prop}
theorem cx_lt (hx : 0 ≤ x ∧ x ≤ 255) (k : K (if isLt x then 1 else 0) μ) : c_i G (d + 1) YX7_isLetter [vI (sg x)] μ K := by
  have s := (sg_lt hx).1
  unfold isLt at k
  by_cases y : 97 ≤ x ∧ x ≤ 122
  · rw [if_pos (decide_eq_true y)] at k
    exact EX7_isLetter ⟨fun q => absurd (s.mpr y).1 (by omega), fun _ => ⟨fun q => absurd (s.mpr y).2 (by omega), fun _ => k⟩⟩
  · rw [decide_eq_false y] at k
    exact EX7_isLetter ⟨fun _ => k, fun q => ⟨fun _ => k, fun q2 => absurd (s.mp ⟨by omega, by omega⟩) y⟩⟩
theorem cx_dg (hx : 0 ≤ x ∧ x ≤ 255) (k : K (if isDg x then 1 else 0) μ) : c_i G (d + 1) YX7_isDigit [vI (sg x)] μ K := by
  have s := (sg_lt hx).2.1
  unfold isDg at k
  by_cases y : 48 ≤ x ∧ x ≤ 57
  · rw [if_pos (decide_eq_true y)] at k
    exact EX7_isDigit ⟨fun q => absurd (s.mpr y).1 (by omega), fun _ => ⟨fun q => absurd (s.mpr y).2 (by omega), fun _ => k⟩⟩
  · rw [decide_eq_false y] at k
    exact EX7_isDigit ⟨fun _ => k, fun q => ⟨fun _ => k, fun q2 => absurd (s.mp ⟨by omega, by omega⟩) y⟩⟩
theorem cx_bk (hx : 0 ≤ x ∧ x ≤ 255) (k : K (if isBk x then 1 else 0) μ) : c_i G (d + 1) YX7_isBlank [vI (sg x)] μ K := by
  have s := (sg_lt hx).2.2
  unfold isBk at k
  by_cases y : x = 10 ∨ x = 32
  · rw [if_pos (decide_eq_true y)] at k
    exact EX7_isBlank ⟨fun _ => k, fun q => ⟨fun q2 => absurd y (by rw [← s.1, ← s.2]; omega), fun _ => k⟩⟩
  · rw [decide_eq_false y] at k
    exact EX7_isBlank ⟨fun q => absurd (s.1.mp q) (by omega), fun q => ⟨fun _ => k, fun q2 => absurd (s.2.mp q2) (by omega)⟩⟩
theorem mx_lt (k : K (if isLt x then 1 else 0) μ) : c_i G (d + 1) YX12_isLetter [vI x] μ K := by
  unfold isLt at k
  by_cases y : 97 ≤ x ∧ x ≤ 122
  · rw [if_pos (decide_eq_true y)] at k
    exact EX12_isLetter ⟨fun q => absurd y (by omega), fun _ => ⟨fun q => absurd y (by omega), fun _ => k⟩⟩
  · rw [decide_eq_false y] at k
    exact EX12_isLetter ⟨fun _ => k, fun q => ⟨fun _ => k, fun q2 => absurd ⟨by omega, by omega⟩ y⟩⟩
theorem mx_dg (k : K (if isDg x then 1 else 0) μ) : c_i G (d + 1) YX12_isDigit [vI x] μ K := by
  unfold isDg at k
  by_cases y : 48 ≤ x ∧ x ≤ 57
  · rw [if_pos (decide_eq_true y)] at k
    exact EX12_isDigit ⟨fun q => absurd y (by omega), fun _ => ⟨fun q => absurd y (by omega), fun _ => k⟩⟩
  · rw [decide_eq_false y] at k
    exact EX12_isDigit ⟨fun _ => k, fun q => ⟨fun _ => k, fun q2 => absurd ⟨by omega, by omega⟩ y⟩⟩
end LXC
