/-! ===== the small machine: locals that are written ===== -/
def m_k1 (lv : List (Option m_V)) (i : Nat) : List (Option m_V) := if i = 0 then lv else match lv[i - 1]? with
  | some (some (.inr (.inl _))) => lv.set (i - 1) none
  | _ => lv
def m_s1 (lv : List (Option m_V)) (i : Nat) (v : m_V) : List (Option m_V) := (m_k1 lv i).set i (some v)
def m_s2 (lv : List (Option m_V)) (i : Nat) (v : m_V) : List (Option m_V) := (m_s1 lv i v).set (i + 1) none
def m_LL (G : m_G) (lv : List (Option m_V)) : List (Nat × Value) := (List.range lv.length).filterMap (fun i => match lv[i]? with
  | some (some v) => some (i, m_rv G v)
  | _ => none)
theorem m_LL_mem {G : m_G} {lv : List (Option m_V)} {i : Nat} {v : m_V} (h : lv[i]? = some (some v)) : (i, m_rv G v) ∈ m_LL G lv := by
  refine List.mem_filterMap.mpr ⟨i, List.mem_range.mpr ((List.getElem?_eq_some_iff.mp h).1), ?_⟩
  rw [h]
theorem m_lv.has {G : m_G} {ls : Array Slot} {nL : Nat} {lv : List (Option m_V)} (h : m_lv G ls nL lv) : lv_has ls nL (m_LL G lv) := by
  refine ⟨h.1.1, h.1.2.1, fun q hq => ?_⟩
  obtain ⟨i, -, hi⟩ := List.mem_filterMap.mp hq
  cases hx : lv[i]? with
  | none => rw [hx] at hi; cases hi
  | some w =>
    cases w with
    | none => rw [hx] at hi; cases hi
    | some v =>
      rw [hx] at hi
      cases hi
      exact (h.2 i v hx).1
theorem m_rv_cat (G : m_G) (v : m_V) : (m_rv G v).category = 2 → ∃ x : Int, v = .inr (.inl x) := by
  rcases v with x | x | _ | q
  · intro h; exact absurd h (by show ¬ 1 = 2; decide)
  · intro _; exact ⟨x, rfl⟩
  · intro h; exact absurd h (by show ¬ 1 = 2; decide)
  · intro h; exact absurd h (by show ¬ 1 = 2; decide)
theorem m_k1_get {lv : List (Option m_V)} {i j : Nat} {w : m_V} (h : (m_k1 lv i)[j]? = some (some w)) : lv[j]? = some (some w) ∧ (j + 1 = i → ∀ x : Int, w ≠ .inr (.inl x)) := by
  unfold m_k1 at h
  split at h
  · exact ⟨h, fun e => by omega⟩
  · split at h
    · next hi x hx =>
      rw [List.getElem?_set] at h
      split at h
      · split at h <;> cases h
      · exact ⟨h, fun e => by omega⟩
    · next hi hx =>
      refine ⟨h, fun e x hw => ?_⟩
      subst hw
      exact hx x (by rw [show i - 1 = j by omega]; exact h)
theorem m_lv.set1 {G : m_G} {ls ls' : Array Slot} {nL i : Nat} {lv : List (Option m_V)} {v : m_V} (h : m_lv G ls nL lv) (hv : m_ok v) (h' : lv_has ls' nL ((i, m_rv G v) :: (m_LL G lv).filter (fun q => !(q.1 == i) && !(q.1 + 1 == i && q.2.category == 2)))) : m_lv G ls' nL (m_s1 lv i v) := by
  refine ⟨⟨h'.1, h'.2.1, fun q hq => by cases hq⟩, fun j w hj => ?_⟩
  unfold m_s1 at hj
  rw [List.getElem?_set] at hj
  split at hj
  · next e =>
    split at hj
    · cases hj
      subst e
      exact ⟨h'.2.2 _ List.mem_cons_self, hv⟩
    · cases hj
  · next e =>
    obtain ⟨h1, h2⟩ := m_k1_get hj
    refine ⟨h'.2.2 (j, m_rv G w) (List.mem_cons_of_mem _ (List.mem_filter.mpr ⟨m_LL_mem h1, ?_⟩)), (h.2 j w h1).2⟩
    simp only [Bool.and_eq_true, Bool.not_eq_true', beq_eq_false_iff_ne, ne_eq, Bool.and_eq_false_iff]
    refine ⟨fun q => e q.symm, ?_⟩
    by_cases q : j + 1 = i
    · right
      intro hc
      obtain ⟨x, hx⟩ := m_rv_cat G w hc
      exact h2 q x hx
    · left; exact q
theorem m_lv.set2 {G : m_G} {ls ls' : Array Slot} {nL i : Nat} {lv : List (Option m_V)} {v : m_V} (h : m_lv G ls nL lv) (hv : m_ok v) (h' : lv_has ls' nL ((i, m_rv G v) :: (m_LL G lv).filter (fun q => !(q.1 == i) && (!(q.1 == i + 1) && !(q.1 + 1 == i && q.2.category == 2))))) : m_lv G ls' nL (m_s2 lv i v) := by
  refine ⟨⟨h'.1, h'.2.1, fun q hq => by cases hq⟩, fun j w hj => ?_⟩
  unfold m_s2 at hj
  rw [List.getElem?_set] at hj
  split at hj
  · split at hj <;> cases hj
  · next e1 =>
    unfold m_s1 at hj
    rw [List.getElem?_set] at hj
    split at hj
    · next e =>
      split at hj
      · cases hj
        subst e
        exact ⟨h'.2.2 _ List.mem_cons_self, hv⟩
      · cases hj
    · next e =>
      obtain ⟨h1, h2⟩ := m_k1_get hj
      refine ⟨h'.2.2 (j, m_rv G w) (List.mem_cons_of_mem _ (List.mem_filter.mpr ⟨m_LL_mem h1, ?_⟩)), (h.2 j w h1).2⟩
      simp only [Bool.and_eq_true, Bool.not_eq_true', beq_eq_false_iff_ne, ne_eq, Bool.and_eq_false_iff]
      refine ⟨fun q => e q.symm, fun q => e1 q.symm, ?_⟩
      by_cases q : j + 1 = i
      · right
        intro hc
        obtain ⟨x, hx⟩ := m_rv_cat G w hc
        exact h2 q x hx
      · left; exact q
section MLO
variable {G : m_G} {X : m_X} {Y : m_Y} {d mc ms : Nat} {S : Nat × Bool × Nat × Nat} {μ : m_M} {pc : Nat} {lv : List (Option m_V)} {st : List m_V}
theorem m_istore_n (C : m_Cx G X Y d mc ms) {q : Fin 4} {x : Int} (hd : decode Y.2.1 pc = .ok (.istore_n q, 1)) (hn : (q : Nat) < Y.2.2.1) (k : m_W G X Y S μ (pc + 1) (m_s1 lv q (vI x)) st) : m_W G X Y S μ pc lv (vI x :: st) := by
  obtain ⟨p, l, e, R, s, m, args, below, meth, c, Qf⟩ := X
  obtain ⟨hx, hb, -⟩ := C
  intro H locs ls hP hf hS ho hl
  exact lv_istore_n hx hb hd rfl hl.has hn rfl (fun ls' h' => k H locs ls' hP hf hS (ok_tl ho) (hl.set1 (ok_hd ho) h'))
theorem m_istore (C : m_Cx G X Y d mc ms) {i : Nat} {x : Int} (hd : decode Y.2.1 pc = .ok (.istore i, 2)) (hn : i < Y.2.2.1) (k : m_W G X Y S μ (pc + 2) (m_s1 lv i (vI x)) st) : m_W G X Y S μ pc lv (vI x :: st) := by
  obtain ⟨p, l, e, R, s, m, args, below, meth, c, Qf⟩ := X
  obtain ⟨hx, hb, -⟩ := C
  intro H locs ls hP hf hS ho hl
  exact lv_istore hx hb hd hl.has hn rfl (fun ls' h' => k H locs ls' hP hf hS (ok_tl ho) (hl.set1 (ok_hd ho) h'))
theorem m_lstore_n (C : m_Cx G X Y d mc ms) {q : Fin 4} {x : Int} (hd : decode Y.2.1 pc = .ok (.lstore_n q, 1)) (hn : (q : Nat) + 1 < Y.2.2.1) (k : m_W G X Y S μ (pc + 1) (m_s2 lv q (vJ x)) st) : m_W G X Y S μ pc lv (vJ x :: st) := by
  obtain ⟨p, l, e, R, s, m, args, below, meth, c, Qf⟩ := X
  obtain ⟨hx, hb, -⟩ := C
  intro H locs ls hP hf hS ho hl
  exact lv_lstore_n hx hb hd rfl hl.has hn rfl (fun ls' h' => k H locs ls' hP hf hS (ok_tl ho) (hl.set2 (ok_hd ho) h'))
theorem m_lstore (C : m_Cx G X Y d mc ms) {i : Nat} {x : Int} (hd : decode Y.2.1 pc = .ok (.lstore i, 2)) (hn : i + 1 < Y.2.2.1) (k : m_W G X Y S μ (pc + 2) (m_s2 lv i (vJ x)) st) : m_W G X Y S μ pc lv (vJ x :: st) := by
  obtain ⟨p, l, e, R, s, m, args, below, meth, c, Qf⟩ := X
  obtain ⟨hx, hb, -⟩ := C
  intro H locs ls hP hf hS ho hl
  exact lv_lstore hx hb hd hl.has hn rfl (fun ls' h' => k H locs ls' hP hf hS (ok_tl ho) (hl.set2 (ok_hd ho) h'))
theorem m_astore_n (C : m_Cx G X Y d mc ms) {q : Fin 4} {x w : Nat} (hd : decode Y.2.1 pc = .ok (.astore_n q, 1)) (hn : (q : Nat) < Y.2.2.1) (k : m_W G X Y S μ (pc + 1) (m_s1 lv q (vR x w)) st) : m_W G X Y S μ pc lv (vR x w :: st) := by
  obtain ⟨p, l, e, R, s, m, args, below, meth, c, Qf⟩ := X
  obtain ⟨hx, hb, -⟩ := C
  intro H locs ls hP hf hS ho hl
  exact lv_astore_n hx hb hd rfl hl.has hn rfl (fun ls' h' => k H locs ls' hP hf hS (ok_tl ho) (hl.set1 (ok_hd ho) h'))
theorem m_astore (C : m_Cx G X Y d mc ms) {i : Nat} {x w : Nat} (hd : decode Y.2.1 pc = .ok (.astore i, 2)) (hn : i < Y.2.2.1) (k : m_W G X Y S μ (pc + 2) (m_s1 lv i (vR x w)) st) : m_W G X Y S μ pc lv (vR x w :: st) := by
  obtain ⟨p, l, e, R, s, m, args, below, meth, c, Qf⟩ := X
  obtain ⟨hx, hb, -⟩ := C
  intro H locs ls hP hf hS ho hl
  exact lv_astore hx hb hd hl.has hn rfl (fun ls' h' => k H locs ls' hP hf hS (ok_tl ho) (hl.set1 (ok_hd ho) h'))
theorem m_iinc (C : m_Cx G X Y d mc ms) {i : Nat} {n x : Int} (hd : decode Y.2.1 pc = .ok (.iinc i n, 3)) (hv : lv[i]? = some (some (vI x))) (hn : i < Y.2.2.1) (k : m_W G X Y S μ (pc + 3) (m_s1 lv i (vI (w32 (x + n)))) st) : m_W G X Y S μ pc lv st := by
  obtain ⟨p, l, e, R, s, m, args, below, meth, c, Qf⟩ := X
  obtain ⟨hx, hb, -⟩ := C
  intro H locs ls hP hf hS ho hl
  obtain ⟨kk, hkk⟩ := List.getElem?_of_mem (m_LL_mem (G := G) hv)
  exact lv_iinc (v := Int32.ofInt (w32 (x + n))) hx hb hd hl.has hkk (by rw [w32_of, Int32.ofInt_add]) hn rfl (fun ls' h' => k H locs ls' hP hf hS ho (hl.set1 (show m_ok (vI (w32 (x + n))) from w32_in _) h'))
end MLO
