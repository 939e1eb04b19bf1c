/-! ===== the small machine: the rows of calls ===== -/
section MCL
variable {G : m_G} {X : m_X} {Y : m_Y} {d mc ms : Nat} {S : Nat × Bool × Nat × Nat} {μ : m_M} {pc : Nat} {lv : List (Option m_V)} {st st0 : List m_V}
theorem m_callVi (C : m_Cx G X Y (d + 1) mc ms) {idx o ci n mc1 ms1 : Nat} {Y' : m_Y} {As : List m_V} {K : Int → Nat × Bool → m_M → Prop} (hd : decode Y.2.1 pc = .ok (.invokevirtual idx, 3)) (hL : m_LV Y.1.cls idx Y' n) (hc : m_cls o = ci) (hcn : (vwCl[ci]?).map (fun q => q.1) = some Y'.1.cls) (hE : m_E.idxOf (o, 0) < S.1) (hn : As.length = n) (hst : st0 = As.reverse ++ vR o 0 :: st) (hw : (st.map m_cat).sum ≤ 8) (h1 : S.2.2.1 + mc1 ≤ mc) (h2 : S.2.2.2 + ms1 ≤ ms) (hM : m_Ci G d mc1 ms1 Y' (S.1, S.2.1) (vR o 0 :: As) μ K)
    (k : ∀ (x : Int) (S1 : Nat × Bool) (μ1 : m_M), K x S1 μ1 → m_W G X Y (S1.1, S1.2, S.2.2.1 + mc1, S.2.2.2 + ms1) μ1 (pc + 3) lv (vI x :: st)) : m_W G X Y S μ pc lv st0 := by
  obtain ⟨p, l, e, R, s, m, args, below, meth, c, Qf⟩ := X
  obtain ⟨hx, hb, hml, hrt, hlk, hnm, hown, hts, hK, hZ, hfr, hlo, hce, hsl, hll⟩ := C
  intro H locs ls hP hf hS ho hlv
  subst hst
  have hll : l = G.2.2.2.2.2.2 := hll
  subst hll
  obtain ⟨⟨l1, l2, l3⟩, l4, l5, l6, l7⟩ := hL
  have hoA : ∀ v ∈ As, m_ok v := fun v hv => ho v (List.mem_append_left _ (List.mem_reverse.mpr hv))
  have hok : ∀ v ∈ st, m_ok v := fun v hv => ho v (List.mem_append_right _ (List.mem_cons_of_mem _ hv))
  have hcell := m_cell hP hE
  unfold m_at at hcell
  rw [if_pos rfl] at hcell
  subst hc
  obtain ⟨⟨cell, q1, q2, q3, -⟩, -⟩ := hcell
  obtain ⟨q, hq, hq1⟩ := Option.map_eq_some_iff.mp hcn
  have hcls := (hK.1.1 _ q hq).2.1
  rw [hq1] at hcls
  have hG : GoodIn m_w (wsV Y.1.cls idx Y'.1.cls Y'.1 (m_ws Y')) := m_goodIn (fun w hw => by
    rcases List.mem_append.mp hw with h | h
    · simp only [List.mem_cons, List.not_mem_nil, or_false] at h
      rcases h with rfl | rfl | rfl | rfl
      · exact l5
      · exact l6
      · exact l7
      · exact l2
    · rcases List.mem_cons.mp h with rfl | h
      · exact l1
      · exact h)
  have run := va_runV (As := As.map (m_rv G)) (rest := st.map (m_rv G)) (b := m_ad G (o, 0)) (g := F0 m pc ls ((As.reverse ++ vR o 0 :: st).map (m_rv G))) (below := below) (meth := meth) (e := e) (locs := locs) (cells := S.2.2.1) (slots := S.2.2.2) (H := H) ⟨hx, hb, hml, hown, hts⟩ hM (cwV n hts hG rfl rfl rfl ⟨rfl, l4⟩ ⟨hfr, by show 8 + (Y'.2.2.1 + 11) + 60 * d ≤ R.locals; omega⟩) ⟨m_Pc_blind G hZ _ _ _, ⟨cell, q1, by rw [q3]; rfl, by rw [q2]; exact hcls⟩, fun U hU hW => ⟨rfl, by rw [hU]; exact hP, hf, m_K.move hZ hK hS hU hW, fun v hv => (List.mem_cons.mp hv).elim (fun e => by rw [e]; trivial) (hoA v)⟩⟩ rfl (by rw [List.length_map]; exact hn) hlv.1.1 (by rw [List.map_append, List.map_reverse]; rfl) (by show 2 * 0 + _ ≤ 8; rw [m_cats]; omega) hd ⟨by omega, by omega⟩
  refine va_calli run hS (fun q _ h => h) (fun q h => h) (fun r u t H1 locs1 ht hvm hw1 hB hz1 hk1 hS1 => ?_)
  have hB1 : m_Pic G u.1.1 u.2 t.heap ∧ m_fu u.1.2 u.1.1 u.2 := hB
  rw [ht] at hB1
  have kk := k r.toInt u.1 u.2 hw1 H1 locs1 ls hB1.1 hB1.2 hS1 (ok_csI (in32_t r) hok) hlv
  rw [← Int32.ofInt_toInt r]
  exact kk

theorem m_callSi (C : m_Cx G X Y (d + 1) mc ms) {idx n mc1 ms1 : Nat} {Y' : m_Y} {As : List m_V} {K : Int → Nat × Bool → m_M → Prop} (hd : decode Y.2.1 pc = .ok (.invokestatic idx, 3)) (hL : m_LS Y.1.cls idx Y' n) (hn : As.length = n) (hst : st0 = As.reverse ++ st) (hw : (st.map m_cat).sum ≤ 8) (h1 : S.2.2.1 + mc1 ≤ mc) (h2 : S.2.2.2 + ms1 ≤ ms) (hM : m_Ci G d mc1 ms1 Y' (S.1, S.2.1) As μ K)
    (k : ∀ (x : Int) (S1 : Nat × Bool) (μ1 : m_M), K x S1 μ1 → m_W G X Y (S1.1, S1.2, S.2.2.1 + mc1, S.2.2.2 + ms1) μ1 (pc + 3) lv (vI x :: st)) : m_W G X Y S μ pc lv st0 := by
  obtain ⟨p, l, e, R, s, m, args, below, meth, c, Qf⟩ := X
  obtain ⟨hx, hb, hml, hrt, hlk, hnm, hown, hts, hK, hZ, hfr, hlo, hce, hsl, hll⟩ := C
  intro H locs ls hP hf hS ho hlv
  subst hst
  have hll : l = G.2.2.2.2.2.2 := hll
  subst hll
  obtain ⟨⟨l1, l2, l3⟩, l4, l5, l6⟩ := hL
  have hoA : ∀ v ∈ As, m_ok v := fun v hv => ho v (List.mem_append_left _ (List.mem_reverse.mpr hv))
  have hok : ∀ v ∈ st, m_ok v := fun v hv => ho v (List.mem_append_right _ hv)
  have hG : GoodIn m_w (va_wsS Y.1.cls idx Y'.1 (m_ws Y')) := m_goodIn (fun w hw => by
    rcases List.mem_append.mp hw with h | h
    · simp only [List.mem_cons, List.not_mem_nil, or_false] at h
      rcases h with rfl | rfl | rfl
      · exact l5
      · exact l6
      · exact l2
    · rcases List.mem_cons.mp h with rfl | h
      · exact l1
      · exact h)
  have run := va_runS (As := As.map (m_rv G)) (rest := st.map (m_rv G)) (g := F0 m pc ls ((As.reverse ++ st).map (m_rv G))) (below := below) (meth := meth) (e := e) (locs := locs) (cells := S.2.2.1) (slots := S.2.2.2) (H := H) ⟨hx, hb, hml, hown, hts⟩ hM (va_cwS n hts hG rfl rfl rfl l4 ⟨hfr, by show 8 + (Y'.2.2.1 + 11) + 60 * d ≤ R.locals; omega⟩) ⟨m_Pc_blind G hZ _ _ _, fun U hU hW => ⟨rfl, by rw [hU]; exact hP, hf, m_K.move hZ hK hS hU hW, hoA⟩⟩ rfl (by rw [List.length_map]; exact hn) hlv.1.1 (by rw [List.map_append, List.map_reverse]) (by show 2 * 0 + _ ≤ 8; rw [m_cats]; omega) hd ⟨by omega, by omega⟩
  refine va_calli run hS (fun q _ h => h) (fun q h => h) (fun r u t H1 locs1 ht hvm hw1 hB hz1 hk1 hS1 => ?_)
  have hB1 : m_Pic G u.1.1 u.2 t.heap ∧ m_fu u.1.2 u.1.1 u.2 := hB
  rw [ht] at hB1
  have kk := k r.toInt u.1 u.2 hw1 H1 locs1 ls hB1.1 hB1.2 hS1 (ok_csI (in32_t r) hok) hlv
  rw [← Int32.ofInt_toInt r]
  exact kk

theorem m_callVl (C : m_Cx G X Y (d + 1) mc ms) {idx o ci n mc1 ms1 : Nat} {Y' : m_Y} {As : List m_V} {K : Int → Nat × Bool → m_M → Prop} (hd : decode Y.2.1 pc = .ok (.invokevirtual idx, 3)) (hL : m_LV Y.1.cls idx Y' n) (hc : m_cls o = ci) (hcn : (vwCl[ci]?).map (fun q => q.1) = some Y'.1.cls) (hE : m_E.idxOf (o, 0) < S.1) (hn : As.length = n) (hst : st0 = As.reverse ++ vR o 0 :: st) (hw : (st.map m_cat).sum ≤ 8) (h1 : S.2.2.1 + mc1 ≤ mc) (h2 : S.2.2.2 + ms1 ≤ ms) (hM : m_Cl G d mc1 ms1 Y' (S.1, S.2.1) (vR o 0 :: As) μ K)
    (k : ∀ (x : Int) (S1 : Nat × Bool) (μ1 : m_M), K x S1 μ1 → m_W G X Y (S1.1, S1.2, S.2.2.1 + mc1, S.2.2.2 + ms1) μ1 (pc + 3) lv (vJ x :: st)) : m_W G X Y S μ pc lv st0 := by
  obtain ⟨p, l, e, R, s, m, args, below, meth, c, Qf⟩ := X
  obtain ⟨hx, hb, hml, hrt, hlk, hnm, hown, hts, hK, hZ, hfr, hlo, hce, hsl, hll⟩ := C
  intro H locs ls hP hf hS ho hlv
  subst hst
  have hll : l = G.2.2.2.2.2.2 := hll
  subst hll
  obtain ⟨⟨l1, l2, l3⟩, l4, l5, l6, l7⟩ := hL
  have hoA : ∀ v ∈ As, m_ok v := fun v hv => ho v (List.mem_append_left _ (List.mem_reverse.mpr hv))
  have hok : ∀ v ∈ st, m_ok v := fun v hv => ho v (List.mem_append_right _ (List.mem_cons_of_mem _ hv))
  have hcell := m_cell hP hE
  unfold m_at at hcell
  rw [if_pos rfl] at hcell
  subst hc
  obtain ⟨⟨cell, q1, q2, q3, -⟩, -⟩ := hcell
  obtain ⟨q, hq, hq1⟩ := Option.map_eq_some_iff.mp hcn
  have hcls := (hK.1.1 _ q hq).2.1
  rw [hq1] at hcls
  have hG : GoodIn m_w (wsV Y.1.cls idx Y'.1.cls Y'.1 (m_ws Y')) := m_goodIn (fun w hw => by
    rcases List.mem_append.mp hw with h | h
    · simp only [List.mem_cons, List.not_mem_nil, or_false] at h
      rcases h with rfl | rfl | rfl | rfl
      · exact l5
      · exact l6
      · exact l7
      · exact l2
    · rcases List.mem_cons.mp h with rfl | h
      · exact l1
      · exact h)
  have run := va_runV (As := As.map (m_rv G)) (rest := st.map (m_rv G)) (b := m_ad G (o, 0)) (g := F0 m pc ls ((As.reverse ++ vR o 0 :: st).map (m_rv G))) (below := below) (meth := meth) (e := e) (locs := locs) (cells := S.2.2.1) (slots := S.2.2.2) (H := H) ⟨hx, hb, hml, hown, hts⟩ hM (cwV n hts hG rfl rfl rfl ⟨rfl, l4⟩ ⟨hfr, by show 8 + (Y'.2.2.1 + 11) + 60 * d ≤ R.locals; omega⟩) ⟨m_Pc_blind G hZ _ _ _, ⟨cell, q1, by rw [q3]; rfl, by rw [q2]; exact hcls⟩, fun U hU hW => ⟨rfl, by rw [hU]; exact hP, hf, m_K.move hZ hK hS hU hW, fun v hv => (List.mem_cons.mp hv).elim (fun e => by rw [e]; trivial) (hoA v)⟩⟩ rfl (by rw [List.length_map]; exact hn) hlv.1.1 (by rw [List.map_append, List.map_reverse]; rfl) (by show 2 * 0 + _ ≤ 8; rw [m_cats]; omega) hd ⟨by omega, by omega⟩
  refine va_calll run hS (fun q _ h => h) (fun q h => h) (fun r u t H1 locs1 ht hvm hw1 hB hz1 hk1 hS1 => ?_)
  have hB1 : m_Pic G u.1.1 u.2 t.heap ∧ m_fu u.1.2 u.1.1 u.2 := hB
  rw [ht] at hB1
  have kk := k r.toInt u.1 u.2 hw1 H1 locs1 ls hB1.1 hB1.2 hS1 (ok_csJ (in64_t r) hok) hlv
  rw [← Int64.ofInt_toInt r]
  exact kk

theorem m_callSl (C : m_Cx G X Y (d + 1) mc ms) {idx n mc1 ms1 : Nat} {Y' : m_Y} {As : List m_V} {K : Int → Nat × Bool → m_M → Prop} (hd : decode Y.2.1 pc = .ok (.invokestatic idx, 3)) (hL : m_LS Y.1.cls idx Y' n) (hn : As.length = n) (hst : st0 = As.reverse ++ st) (hw : (st.map m_cat).sum ≤ 8) (h1 : S.2.2.1 + mc1 ≤ mc) (h2 : S.2.2.2 + ms1 ≤ ms) (hM : m_Cl G d mc1 ms1 Y' (S.1, S.2.1) As μ K)
    (k : ∀ (x : Int) (S1 : Nat × Bool) (μ1 : m_M), K x S1 μ1 → m_W G X Y (S1.1, S1.2, S.2.2.1 + mc1, S.2.2.2 + ms1) μ1 (pc + 3) lv (vJ x :: st)) : m_W G X Y S μ pc lv st0 := by
  obtain ⟨p, l, e, R, s, m, args, below, meth, c, Qf⟩ := X
  obtain ⟨hx, hb, hml, hrt, hlk, hnm, hown, hts, hK, hZ, hfr, hlo, hce, hsl, hll⟩ := C
  intro H locs ls hP hf hS ho hlv
  subst hst
  have hll : l = G.2.2.2.2.2.2 := hll
  subst hll
  obtain ⟨⟨l1, l2, l3⟩, l4, l5, l6⟩ := hL
  have hoA : ∀ v ∈ As, m_ok v := fun v hv => ho v (List.mem_append_left _ (List.mem_reverse.mpr hv))
  have hok : ∀ v ∈ st, m_ok v := fun v hv => ho v (List.mem_append_right _ hv)
  have hG : GoodIn m_w (va_wsS Y.1.cls idx Y'.1 (m_ws Y')) := m_goodIn (fun w hw => by
    rcases List.mem_append.mp hw with h | h
    · simp only [List.mem_cons, List.not_mem_nil, or_false] at h
      rcases h with rfl | rfl | rfl
      · exact l5
      · exact l6
      · exact l2
    · rcases List.mem_cons.mp h with rfl | h
      · exact l1
      · exact h)
  have run := va_runS (As := As.map (m_rv G)) (rest := st.map (m_rv G)) (g := F0 m pc ls ((As.reverse ++ st).map (m_rv G))) (below := below) (meth := meth) (e := e) (locs := locs) (cells := S.2.2.1) (slots := S.2.2.2) (H := H) ⟨hx, hb, hml, hown, hts⟩ hM (va_cwS n hts hG rfl rfl rfl l4 ⟨hfr, by show 8 + (Y'.2.2.1 + 11) + 60 * d ≤ R.locals; omega⟩) ⟨m_Pc_blind G hZ _ _ _, fun U hU hW => ⟨rfl, by rw [hU]; exact hP, hf, m_K.move hZ hK hS hU hW, hoA⟩⟩ rfl (by rw [List.length_map]; exact hn) hlv.1.1 (by rw [List.map_append, List.map_reverse]) (by show 2 * 0 + _ ≤ 8; rw [m_cats]; omega) hd ⟨by omega, by omega⟩
  refine va_calll run hS (fun q _ h => h) (fun q h => h) (fun r u t H1 locs1 ht hvm hw1 hB hz1 hk1 hS1 => ?_)
  have hB1 : m_Pic G u.1.1 u.2 t.heap ∧ m_fu u.1.2 u.1.1 u.2 := hB
  rw [ht] at hB1
  have kk := k r.toInt u.1 u.2 hw1 H1 locs1 ls hB1.1 hB1.2 hS1 (ok_csJ (in64_t r) hok) hlv
  rw [← Int64.ofInt_toInt r]
  exact kk

theorem m_callVv (C : m_Cx G X Y (d + 1) mc ms) {idx o ci n mc1 ms1 : Nat} {Y' : m_Y} {As : List m_V} {K : Nat × Bool → m_M → Prop} (hd : decode Y.2.1 pc = .ok (.invokevirtual idx, 3)) (hL : m_LV Y.1.cls idx Y' n) (hc : m_cls o = ci) (hcn : (vwCl[ci]?).map (fun q => q.1) = some Y'.1.cls) (hE : m_E.idxOf (o, 0) < S.1) (hn : As.length = n) (hst : st0 = As.reverse ++ vR o 0 :: st) (hw : (st.map m_cat).sum ≤ 8) (h1 : S.2.2.1 + mc1 ≤ mc) (h2 : S.2.2.2 + ms1 ≤ ms) (hM : m_Cv G d mc1 ms1 Y' (S.1, S.2.1) (vR o 0 :: As) μ K)
    (k : ∀ (S1 : Nat × Bool) (μ1 : m_M), K S1 μ1 → m_W G X Y (S1.1, S1.2, S.2.2.1 + mc1, S.2.2.2 + ms1) μ1 (pc + 3) lv (st)) : m_W G X Y S μ pc lv st0 := by
  obtain ⟨p, l, e, R, s, m, args, below, meth, c, Qf⟩ := X
  obtain ⟨hx, hb, hml, hrt, hlk, hnm, hown, hts, hK, hZ, hfr, hlo, hce, hsl, hll⟩ := C
  intro H locs ls hP hf hS ho hlv
  subst hst
  have hll : l = G.2.2.2.2.2.2 := hll
  subst hll
  obtain ⟨⟨l1, l2, l3⟩, l4, l5, l6, l7⟩ := hL
  have hoA : ∀ v ∈ As, m_ok v := fun v hv => ho v (List.mem_append_left _ (List.mem_reverse.mpr hv))
  have hok : ∀ v ∈ st, m_ok v := fun v hv => ho v (List.mem_append_right _ (List.mem_cons_of_mem _ hv))
  have hcell := m_cell hP hE
  unfold m_at at hcell
  rw [if_pos rfl] at hcell
  subst hc
  obtain ⟨⟨cell, q1, q2, q3, -⟩, -⟩ := hcell
  obtain ⟨q, hq, hq1⟩ := Option.map_eq_some_iff.mp hcn
  have hcls := (hK.1.1 _ q hq).2.1
  rw [hq1] at hcls
  have hG : GoodIn m_w (wsV Y.1.cls idx Y'.1.cls Y'.1 (m_ws Y')) := m_goodIn (fun w hw => by
    rcases List.mem_append.mp hw with h | h
    · simp only [List.mem_cons, List.not_mem_nil, or_false] at h
      rcases h with rfl | rfl | rfl | rfl
      · exact l5
      · exact l6
      · exact l7
      · exact l2
    · rcases List.mem_cons.mp h with rfl | h
      · exact l1
      · exact h)
  have run := va_runV (As := As.map (m_rv G)) (rest := st.map (m_rv G)) (b := m_ad G (o, 0)) (g := F0 m pc ls ((As.reverse ++ vR o 0 :: st).map (m_rv G))) (below := below) (meth := meth) (e := e) (locs := locs) (cells := S.2.2.1) (slots := S.2.2.2) (H := H) ⟨hx, hb, hml, hown, hts⟩ hM (cwV n hts hG rfl rfl rfl ⟨rfl, l4⟩ ⟨hfr, by show 8 + (Y'.2.2.1 + 11) + 60 * d ≤ R.locals; omega⟩) ⟨m_Pc_blind G hZ _ _ _, ⟨cell, q1, by rw [q3]; rfl, by rw [q2]; exact hcls⟩, fun U hU hW => ⟨rfl, by rw [hU]; exact hP, hf, m_K.move hZ hK hS hU hW, fun v hv => (List.mem_cons.mp hv).elim (fun e => by rw [e]; trivial) (hoA v)⟩⟩ rfl (by rw [List.length_map]; exact hn) hlv.1.1 (by rw [List.map_append, List.map_reverse]; rfl) (by show 2 * 0 + _ ≤ 8; rw [m_cats]; omega) hd ⟨by omega, by omega⟩
  refine va_callv run hS (fun q _ h => h) (fun q h => h) (fun u t H1 locs1 ht hvm hw1 hB hz1 hk1 hS1 => ?_)
  have hB1 : m_Pic G u.1.1 u.2 t.heap ∧ m_fu u.1.2 u.1.1 u.2 := hB
  rw [ht] at hB1
  exact k u.1 u.2 hw1 H1 locs1 ls hB1.1 hB1.2 hS1 hok hlv

theorem m_callSv (C : m_Cx G X Y (d + 1) mc ms) {idx n mc1 ms1 : Nat} {Y' : m_Y} {As : List m_V} {K : Nat × Bool → m_M → Prop} (hd : decode Y.2.1 pc = .ok (.invokestatic idx, 3)) (hL : m_LS Y.1.cls idx Y' n) (hn : As.length = n) (hst : st0 = As.reverse ++ st) (hw : (st.map m_cat).sum ≤ 8) (h1 : S.2.2.1 + mc1 ≤ mc) (h2 : S.2.2.2 + ms1 ≤ ms) (hM : m_Cv G d mc1 ms1 Y' (S.1, S.2.1) As μ K)
    (k : ∀ (S1 : Nat × Bool) (μ1 : m_M), K S1 μ1 → m_W G X Y (S1.1, S1.2, S.2.2.1 + mc1, S.2.2.2 + ms1) μ1 (pc + 3) lv (st)) : m_W G X Y S μ pc lv st0 := by
  obtain ⟨p, l, e, R, s, m, args, below, meth, c, Qf⟩ := X
  obtain ⟨hx, hb, hml, hrt, hlk, hnm, hown, hts, hK, hZ, hfr, hlo, hce, hsl, hll⟩ := C
  intro H locs ls hP hf hS ho hlv
  subst hst
  have hll : l = G.2.2.2.2.2.2 := hll
  subst hll
  obtain ⟨⟨l1, l2, l3⟩, l4, l5, l6⟩ := hL
  have hoA : ∀ v ∈ As, m_ok v := fun v hv => ho v (List.mem_append_left _ (List.mem_reverse.mpr hv))
  have hok : ∀ v ∈ st, m_ok v := fun v hv => ho v (List.mem_append_right _ hv)
  have hG : GoodIn m_w (va_wsS Y.1.cls idx Y'.1 (m_ws Y')) := m_goodIn (fun w hw => by
    rcases List.mem_append.mp hw with h | h
    · simp only [List.mem_cons, List.not_mem_nil, or_false] at h
      rcases h with rfl | rfl | rfl
      · exact l5
      · exact l6
      · exact l2
    · rcases List.mem_cons.mp h with rfl | h
      · exact l1
      · exact h)
  have run := va_runS (As := As.map (m_rv G)) (rest := st.map (m_rv G)) (g := F0 m pc ls ((As.reverse ++ st).map (m_rv G))) (below := below) (meth := meth) (e := e) (locs := locs) (cells := S.2.2.1) (slots := S.2.2.2) (H := H) ⟨hx, hb, hml, hown, hts⟩ hM (va_cwS n hts hG rfl rfl rfl l4 ⟨hfr, by show 8 + (Y'.2.2.1 + 11) + 60 * d ≤ R.locals; omega⟩) ⟨m_Pc_blind G hZ _ _ _, fun U hU hW => ⟨rfl, by rw [hU]; exact hP, hf, m_K.move hZ hK hS hU hW, hoA⟩⟩ rfl (by rw [List.length_map]; exact hn) hlv.1.1 (by rw [List.map_append, List.map_reverse]) (by show 2 * 0 + _ ≤ 8; rw [m_cats]; omega) hd ⟨by omega, by omega⟩
  refine va_callv run hS (fun q _ h => h) (fun q h => h) (fun u t H1 locs1 ht hvm hw1 hB hz1 hk1 hS1 => ?_)
  have hB1 : m_Pic G u.1.1 u.2 t.heap ∧ m_fu u.1.2 u.1.1 u.2 := hB
  rw [ht] at hB1
  exact k u.1 u.2 hw1 H1 locs1 ls hB1.1 hB1.2 hS1 hok hlv

theorem m_callI (C : m_Cx G X Y (d + 1) mc ms) {idx o n mc1 ms1 : Nat} {Y' : m_Y} {As : List m_V} {K : Nat × Bool → m_M → Prop} (hd : decode Y.2.1 pc = .ok (.invokespecial idx, 3)) (hL : m_LI Y.1.cls idx Y' n) (hn : As.length = n) (hst : st0 = As.reverse ++ vR o 0 :: st) (hw : (st.map m_cat).sum ≤ 8) (h1 : S.2.2.1 + mc1 ≤ mc) (h2 : S.2.2.2 + ms1 ≤ ms) (hM : m_Cv G d mc1 ms1 Y' (S.1, S.2.1) (vR o 0 :: As) μ K)
    (k : ∀ (S1 : Nat × Bool) (μ1 : m_M), K S1 μ1 → m_W G X Y (S1.1, S1.2, S.2.2.1 + mc1, S.2.2.2 + ms1) μ1 (pc + 3) lv st) : m_W G X Y S μ pc lv st0 := by
  obtain ⟨p, l, e, R, s, m, args, below, meth, c, Qf⟩ := X
  obtain ⟨hx, hb, hml, hrt, hlk, hnm, hown, hts, hK, hZ, hfr, hlo, hce, hsl, hll⟩ := C
  intro H locs ls hP hf hS ho hlv
  subst hst
  have hll : l = G.2.2.2.2.2.2 := hll
  subst hll
  obtain ⟨⟨l1, l2, l3⟩, l4, l5, l6, l7, l8⟩ := hL
  have hoA : ∀ v ∈ As, m_ok v := fun v hv => ho v (List.mem_append_left _ (List.mem_reverse.mpr hv))
  have hok : ∀ v ∈ st, m_ok v := fun v hv => ho v (List.mem_append_right _ (List.mem_cons_of_mem _ hv))
  have hG : GoodIn m_w (m_ws Y') := m_goodIn (fun w hw => by
    rcases List.mem_cons.mp hw with rfl | h
    · exact l1
    · exact h)
  have hws : m_ws Y' = Cond.code Y'.1 Y'.2.1 Y'.2.2.1 none :: m_w := by unfold m_ws; rw [l8]
  have run : va_Run p G.2.2.2.2.2.2 e R s m args below meth c H locs S.2.2.1 S.2.2.2 mc1 ms1 (F0 m pc ls ((As.reverse ++ vR o 0 :: st).map (m_rv G))) (st.map (m_rv G)) (m_Qv G K (Value.ref (m_ad G (o, 0)) :: As.map (m_rv G)).toArray) (m_A G) := by
    rcases l5 with l5 | l5
    · exact va_runI (As := As.map (m_rv G)) (rest := st.map (m_rv G)) (b := m_ad G (o, 0)) ⟨hx, hb, hml, hown, hts⟩ hM (cwI n hts hG hws rfl rfl (hts _ l2) (hts _ l5) (hts _ l6) l7 l4 ⟨hfr, by show 8 + (Y'.2.2.1 + 11) + 60 * d ≤ R.locals; omega⟩) ⟨m_Pc_blind G hZ _ _ _, fun U hU hW => ⟨rfl, by rw [hU]; exact hP, hf, m_K.move hZ hK hS hU hW, fun v hv => (List.mem_cons.mp hv).elim (fun e => by rw [e]; trivial) (hoA v)⟩⟩ rfl (by rw [List.length_map]; exact hn) hlv.1.1 (by rw [List.map_append, List.map_reverse]; rfl) (by show 2 * 0 + _ ≤ 8; rw [m_cats]; omega) hd ⟨by omega, by omega⟩
    · exact va_runIN (As := As.map (m_rv G)) (rest := st.map (m_rv G)) (b := m_ad G (o, 0)) ⟨hx, hb, hml, hown, hts⟩ hM ⟨va_cnB n hts hG hws rfl rfl (hK.2.1 _ l5) (hts _ l2) l4 ⟨hfr, by show 8 + (Y'.2.2.1 + 11) + 60 * d ≤ R.locals; omega⟩, l7, hts _ l6⟩ ⟨m_Pc_blind G hZ _ _ _, fun U hU hW => ⟨rfl, by rw [hU]; exact hP, hf, m_K.move hZ hK hS hU hW, fun v hv => (List.mem_cons.mp hv).elim (fun e => by rw [e]; trivial) (hoA v)⟩⟩ rfl (by rw [List.length_map]; exact hn) hlv.1.1 (by rw [List.map_append, List.map_reverse]; rfl) (by show 2 * 0 + _ ≤ 8; rw [m_cats]; omega) hd ⟨by omega, by omega⟩
  refine va_callv run hS (fun q _ h => h) (fun q h => h) (fun u t H1 locs1 ht hvm hw1 hB hz1 hk1 hS1 => ?_)
  have hB1 : m_Pic G u.1.1 u.2 t.heap ∧ m_fu u.1.2 u.1.1 u.2 := hB
  rw [ht] at hB1
  exact k u.1 u.2 hw1 H1 locs1 ls hB1.1 hB1.2 hS1 hok hlv

theorem m_objI (C : m_Cx G X Y (d + 1) mc ms) {idx o w : Nat} (hd : decode Y.2.1 pc = .ok (.invokespecial idx, 3)) (h1 : Cond.methodLink Y.1.cls idx Lib.objectInit ∈ m_w) (h2 : Cond.instanceMethod Lib.objectInit ∈ m_w) (h3 : Cond.code Lib.objectInit ⟨#[0xb1]⟩ 1 none ∈ m_w) (hw : (st.map m_cat).sum ≤ 8) (k : m_W G X Y S μ (pc + 3) lv st) : m_W G X Y S μ pc lv (vR o w :: st) := by
  obtain ⟨p, l, e, R, s, m, args, below, meth, c, Qf⟩ := X
  obtain ⟨hx, hb, hml, hrt, hlk, hnm, hown, hts, hK, hZ, hfr, hlo, hce, hsl, hll⟩ := C
  intro H locs ls hP hf hS ho hlv
  refine W.objInit hx hb hown (hts _ h1) (hts _ h2) (hts _ h3) rfl (by rw [hml]; exact hlv.1.1) rfl hd (by omega) (by show 2 * 0 + _ + 12 ≤ R.locals; rw [m_cats]; omega) ?_
  exact k H locs ls hP hf hS (ok_tl ho) hlv
theorem m_mmax (C : m_Cx G X Y (d + 1) mc ms) {idx : Nat} {x y : Int} (hd : decode Y.2.1 pc = .ok (.invokestatic idx, 3)) (w1 : Cond.methodLink Y.1.cls idx Lib.Math.max.name ∈ m_w) (w2 : Cond.static Lib.Math.max.name ∈ m_w) (w3 : Cond.initialized "java/lang/Math" ∈ m_w) (w4 : Cond.code Lib.Math.max.name Lib.Math.max.code 2 (some .int) ∈ m_w) (hw : (st.map m_cat).sum ≤ 8) (h1 : S.2.2.1 ≤ mc) (h2 : S.2.2.2 ≤ ms) (k : m_W G X Y S μ (pc + 3) lv (vI (if x < y then y else x) :: st)) : m_W G X Y S μ pc lv (vI y :: vI x :: st) := by
  obtain ⟨p, l, e, R, s, m, args, below, meth, c, Qf⟩ := X
  obtain ⟨hx, hb, hml, hrt, hlk, hnm, hown, hts, hK, hZ, hfr, hlo, hce, hsl, hll⟩ := C
  intro H locs ls hP hf hS ho hlv
  have hyy : in32 y := ok_hdI ho
  have hxx : in32 x := ok_hdI (ok_tl ho)
  have kk := k H locs ls hP hf hS (ok_csI (by split <;> assumption) (ok_tl (ok_tl ho))) hlv
  refine va_mmax hx hb (by rw [hml]; exact hlv.1.1.symm) hown (hts _ w1) (hts _ w2) (hts _ w3) (hts _ w4) (by omega) (by rw [m_cats]; omega) (by omega) (by omega) hd ?_
  have e : (if Int32.ofInt x < Int32.ofInt y then Int32.ofInt y else Int32.ofInt x) = Int32.ofInt (if x < y then y else x) := by
    rw [apply_ite Int32.ofInt]
    simp only [o32_lt hxx hyy]
  rw [e]
  exact kk
theorem m_mmin (C : m_Cx G X Y (d + 1) mc ms) {idx : Nat} {x y : Int} (hd : decode Y.2.1 pc = .ok (.invokestatic idx, 3)) (w1 : Cond.methodLink Y.1.cls idx Lib.Math.min.name ∈ m_w) (w2 : Cond.static Lib.Math.min.name ∈ m_w) (w3 : Cond.initialized "java/lang/Math" ∈ m_w) (w4 : Cond.code Lib.Math.min.name Lib.Math.min.code 2 (some .int) ∈ m_w) (hw : (st.map m_cat).sum ≤ 8) (h1 : S.2.2.1 ≤ mc) (h2 : S.2.2.2 ≤ ms) (k : m_W G X Y S μ (pc + 3) lv (vI (if y < x then y else x) :: st)) : m_W G X Y S μ pc lv (vI y :: vI x :: st) := by
  obtain ⟨p, l, e, R, s, m, args, below, meth, c, Qf⟩ := X
  obtain ⟨hx, hb, hml, hrt, hlk, hnm, hown, hts, hK, hZ, hfr, hlo, hce, hsl, hll⟩ := C
  intro H locs ls hP hf hS ho hlv
  have hyy : in32 y := ok_hdI ho
  have hxx : in32 x := ok_hdI (ok_tl ho)
  have kk := k H locs ls hP hf hS (ok_csI (by split <;> assumption) (ok_tl (ok_tl ho))) hlv
  refine va_mmin hx hb (by rw [hml]; exact hlv.1.1.symm) hown (hts _ w1) (hts _ w2) (hts _ w3) (hts _ w4) (by omega) (by rw [m_cats]; omega) (by omega) (by omega) hd ?_
  have e : (if Int32.ofInt y < Int32.ofInt x then Int32.ofInt y else Int32.ofInt x) = Int32.ofInt (if y < x then y else x) := by
    rw [apply_ite Int32.ofInt]
    simp only [o32_lt hyy hxx]
  rw [e]
  exact kk
theorem m_mmaxL (C : m_Cx G X Y (d + 1) mc ms) {idx : Nat} {x y : Int} (hd : decode Y.2.1 pc = .ok (.invokestatic idx, 3)) (w1 : Cond.methodLink Y.1.cls idx Lib.MathLoose.max_long.x ∈ m_w) (w2 : Cond.static Lib.MathLoose.max_long.x ∈ m_w) (w3 : Cond.initialized "java/lang/Math" ∈ m_w) (w4 : Cond.code Lib.MathLoose.max_long.x Lib.MathLoose.max_long.code 4 (some .long) ∈ m_w) (hw : (st.map m_cat).sum ≤ 8) (h1 : S.2.2.1 ≤ mc) (h2 : S.2.2.2 ≤ ms) (k : m_W G X Y S μ (pc + 3) lv (vJ (if y < x then x else y) :: st)) : m_W G X Y S μ pc lv (vJ y :: vJ x :: st) := by
  obtain ⟨p, l, e, R, s, m, args, below, meth, c, Qf⟩ := X
  obtain ⟨hx, hb, hml, hrt, hlk, hnm, hown, hts, hK, hZ, hfr, hlo, hce, hsl, hll⟩ := C
  intro H locs ls hP hf hS ho hlv
  have hyy : in64 y := ok_hdJ ho
  have hxx : in64 x := ok_hdJ (ok_tl ho)
  have kk := k H locs ls hP hf hS (ok_csJ (by split <;> assumption) (ok_tl (ok_tl ho))) hlv
  refine va_mmax_long hx hb (by rw [hml]; exact hlv.1.1.symm) hown (hts _ w1) (hts _ w2) (hts _ w3) (hts _ w4) (by omega) (by rw [m_cats]; omega) (by omega) (by omega) hd ?_
  have e : (if Int64.ofInt y < Int64.ofInt x then Int64.ofInt x else Int64.ofInt y) = Int64.ofInt (if y < x then x else y) := by
    rw [apply_ite Int64.ofInt]
    simp only [o64_lt hyy hxx]
  rw [e]
  exact kk
theorem m_mminL (C : m_Cx G X Y (d + 1) mc ms) {idx : Nat} {x y : Int} (hd : decode Y.2.1 pc = .ok (.invokestatic idx, 3)) (w1 : Cond.methodLink Y.1.cls idx Lib.MathLoose.min_long.x ∈ m_w) (w2 : Cond.static Lib.MathLoose.min_long.x ∈ m_w) (w3 : Cond.initialized "java/lang/Math" ∈ m_w) (w4 : Cond.code Lib.MathLoose.min_long.x Lib.MathLoose.min_long.code 4 (some .long) ∈ m_w) (hw : (st.map m_cat).sum ≤ 8) (h1 : S.2.2.1 ≤ mc) (h2 : S.2.2.2 ≤ ms) (k : m_W G X Y S μ (pc + 3) lv (vJ (if y < x then y else x) :: st)) : m_W G X Y S μ pc lv (vJ y :: vJ x :: st) := by
  obtain ⟨p, l, e, R, s, m, args, below, meth, c, Qf⟩ := X
  obtain ⟨hx, hb, hml, hrt, hlk, hnm, hown, hts, hK, hZ, hfr, hlo, hce, hsl, hll⟩ := C
  intro H locs ls hP hf hS ho hlv
  have hyy : in64 y := ok_hdJ ho
  have hxx : in64 x := ok_hdJ (ok_tl ho)
  have kk := k H locs ls hP hf hS (ok_csJ (by split <;> assumption) (ok_tl (ok_tl ho))) hlv
  refine va_mmin_long hx hb (by rw [hml]; exact hlv.1.1.symm) hown (hts _ w1) (hts _ w2) (hts _ w3) (hts _ w4) (by omega) (by rw [m_cats]; omega) (by omega) (by omega) hd ?_
  have e : (if Int64.ofInt y < Int64.ofInt x then Int64.ofInt y else Int64.ofInt x) = Int64.ofInt (if y < x then y else x) := by
    rw [apply_ite Int64.ofInt]
    simp only [o64_lt hyy hxx]
  rw [e]
  exact kk
theorem m_mabs (C : m_Cx G X Y (d + 1) mc ms) {idx : Nat} {x : Int} (hd : decode Y.2.1 pc = .ok (.invokestatic idx, 3)) (w1 : Cond.methodLink Y.1.cls idx Lib.Math.abs.name ∈ m_w) (w2 : Cond.static Lib.Math.abs.name ∈ m_w) (w3 : Cond.initialized "java/lang/Math" ∈ m_w) (w4 : Cond.code Lib.Math.abs.name Lib.Math.abs.code 1 (some .int) ∈ m_w) (hw : (st.map m_cat).sum ≤ 8) (h1 : S.2.2.1 ≤ mc) (h2 : S.2.2.2 ≤ ms) (k : m_W G X Y S μ (pc + 3) lv (vI (if 0 ≤ x then x else w32 (0 - x)) :: st)) : m_W G X Y S μ pc lv (vI x :: st) := by
  obtain ⟨p, l, e, R, s, m, args, below, meth, c, Qf⟩ := X
  obtain ⟨hx, hb, hml, hrt, hlk, hnm, hown, hts, hK, hZ, hfr, hlo, hce, hsl, hll⟩ := C
  intro H locs ls hP hf hS ho hlv
  have hxx : in32 x := ok_hdI ho
  have kk := k H locs ls hP hf hS (ok_csI (by split; assumption; exact w32_in _) (ok_tl ho)) hlv
  refine va_mabs hx hb (by rw [hml]; exact hlv.1.1.symm) hown (hts _ w1) (hts _ w2) (hts _ w3) (hts _ w4) (by omega) (by rw [m_cats]; omega) (by omega) (by omega) hd ?_
  have e : (if 0 ≤ Int32.ofInt x then Int32.ofInt x else 0 - Int32.ofInt x) = Int32.ofInt (if 0 ≤ x then x else w32 (0 - x)) := by
    rw [apply_ite Int32.ofInt, w32_of, Int32.ofInt_sub]
    simp only [o32_0, o32_le in32_0 hxx]
  rw [e]
  exact kk
end MCL
