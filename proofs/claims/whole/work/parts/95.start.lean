theorem tb_r (i : Nat) {w : Cond} (h : tables_1[i]? = some w) : w ∈ lw_tbl := List.mem_append_right _ (List.mem_of_getElem? h)
theorem lay_ot (C : String) (T : u_T) (k : Nat) : (u_lay C T k).onTables = true := by
  unfold u_lay
  split <;> rfl
set_option maxRecDepth 100000 in
theorem ly_0 : ∀ w ∈ u_ws "java/util/ArrayList" T_0 3, w ∈ lw_tbl := by
  intro w hw
  obtain ⟨j, hj, rfl⟩ := List.mem_map.mp hw
  have hj := List.mem_range.mp hj
  match j, hj with
  | 0, _ => exact tb_r 58 (by decide +kernel)
  | 1, _ => exact tb_r 54 (by decide +kernel)
  | 2, _ => exact tb_r 56 (by decide +kernel)
  | n + 3, h => exact absurd h (by omega)
set_option maxRecDepth 100000 in
theorem ly_1 : ∀ w ∈ u_ws "WeaveCore$Agent" T_1 3, w ∈ lw_tbl := by
  intro w hw
  obtain ⟨j, hj, rfl⟩ := List.mem_map.mp hw
  have hj := List.mem_range.mp hj
  match j, hj with
  | 0, _ => exact tb_r 81 (by decide +kernel)
  | 1, _ => exact tb_r 83 (by decide +kernel)
  | 2, _ => exact tb_r 85 (by decide +kernel)
  | n + 3, h => exact absurd h (by omega)
set_option maxRecDepth 100000 in
theorem ly_2 : ∀ w ∈ u_ws "WeaveCore$Cut" T_2 6, w ∈ lw_tbl := by
  intro w hw
  obtain ⟨j, hj, rfl⟩ := List.mem_map.mp hw
  have hj := List.mem_range.mp hj
  match j, hj with
  | 0, _ => exact tb_r 607 (by decide +kernel)
  | 1, _ => exact tb_r 608 (by decide +kernel)
  | 2, _ => exact tb_r 609 (by decide +kernel)
  | 3, _ => exact tb_r 610 (by decide +kernel)
  | 4, _ => exact tb_r 611 (by decide +kernel)
  | 5, _ => exact tb_r 605 (by decide +kernel)
  | n + 6, h => exact absurd h (by omega)
set_option maxRecDepth 100000 in
theorem ly_3 : ∀ w ∈ u_ws "WeaveCore$Node" T_3 13, w ∈ lw_tbl := by
  intro w hw
  obtain ⟨j, hj, rfl⟩ := List.mem_map.mp hw
  have hj := List.mem_range.mp hj
  match j, hj with
  | 0, _ => exact tb_r 141 (by decide +kernel)
  | 1, _ => exact tb_r 143 (by decide +kernel)
  | 2, _ => exact tb_r 145 (by decide +kernel)
  | 3, _ => exact tb_r 147 (by decide +kernel)
  | 4, _ => exact tb_r 149 (by decide +kernel)
  | 5, _ => exact tb_r 125 (by decide +kernel)
  | 6, _ => exact tb_r 127 (by decide +kernel)
  | 7, _ => exact tb_r 129 (by decide +kernel)
  | 8, _ => exact tb_r 131 (by decide +kernel)
  | 9, _ => exact tb_r 133 (by decide +kernel)
  | 10, _ => exact tb_r 135 (by decide +kernel)
  | 11, _ => exact tb_r 137 (by decide +kernel)
  | 12, _ => exact tb_r 139 (by decide +kernel)
  | n + 13, h => exact absurd h (by omega)
set_option maxRecDepth 100000 in
theorem ly_4 : ∀ w ∈ u_ws "WeaveCore" T_4 8, w ∈ lw_tbl := by
  intro w hw
  obtain ⟨j, hj, rfl⟩ := List.mem_map.mp hw
  have hj := List.mem_range.mp hj
  match j, hj with
  | 0, _ => exact tb_r 160 (by decide +kernel)
  | 1, _ => exact tb_r 162 (by decide +kernel)
  | 2, _ => exact tb_r 164 (by decide +kernel)
  | 3, _ => exact tb_r 166 (by decide +kernel)
  | 4, _ => exact tb_r 168 (by decide +kernel)
  | 5, _ => exact tb_r 170 (by decide +kernel)
  | 6, _ => exact tb_r 172 (by decide +kernel)
  | 7, _ => exact tb_r 174 (by decide +kernel)
  | n + 8, h => exact absurd h (by omega)
set_option maxRecDepth 100000 in
theorem ly_5 : ∀ w ∈ u_ws "WeaveCoreModel$Graph" T_5 22, w ∈ lw_tbl := by
  intro w hw
  obtain ⟨j, hj, rfl⟩ := List.mem_map.mp hw
  have hj := List.mem_range.mp hj
  match j, hj with
  | 0, _ => exact tb_r 733 (by decide +kernel)
  | 1, _ => exact tb_r 735 (by decide +kernel)
  | 2, _ => exact tb_r 737 (by decide +kernel)
  | 3, _ => exact tb_r 739 (by decide +kernel)
  | 4, _ => exact tb_r 741 (by decide +kernel)
  | 5, _ => exact tb_r 743 (by decide +kernel)
  | 6, _ => exact tb_r 745 (by decide +kernel)
  | 7, _ => exact tb_r 747 (by decide +kernel)
  | 8, _ => exact tb_r 749 (by decide +kernel)
  | 9, _ => exact tb_r 751 (by decide +kernel)
  | 10, _ => exact tb_r 753 (by decide +kernel)
  | 11, _ => exact tb_r 755 (by decide +kernel)
  | 12, _ => exact tb_r 757 (by decide +kernel)
  | 13, _ => exact tb_r 759 (by decide +kernel)
  | 14, _ => exact tb_r 761 (by decide +kernel)
  | 15, _ => exact tb_r 763 (by decide +kernel)
  | 16, _ => exact tb_r 765 (by decide +kernel)
  | 17, _ => exact tb_r 767 (by decide +kernel)
  | 18, _ => exact tb_r 769 (by decide +kernel)
  | 19, _ => exact tb_r 771 (by decide +kernel)
  | 20, _ => exact tb_r 773 (by decide +kernel)
  | 21, _ => exact tb_r 775 (by decide +kernel)
  | n + 22, h => exact absurd h (by omega)
set_option maxRecDepth 100000 in
theorem ly_6 : ∀ w ∈ u_ws "WeaveCoreModel" T_6 6, w ∈ lw_tbl := by
  intro w hw
  obtain ⟨j, hj, rfl⟩ := List.mem_map.mp hw
  have hj := List.mem_range.mp hj
  match j, hj with
  | 0, _ => exact tb_r 786 (by decide +kernel)
  | 1, _ => exact tb_r 788 (by decide +kernel)
  | 2, _ => exact tb_r 790 (by decide +kernel)
  | 3, _ => exact tb_r 792 (by decide +kernel)
  | 4, _ => exact tb_r 794 (by decide +kernel)
  | 5, _ => exact tb_r 796 (by decide +kernel)
  | n + 6, h => exact absurd h (by omega)
section WST
variable {s : State} {b : Nat}
theorem arr_prim {ty : FieldType} {args : Array Value} (hp : ∀ C, ty ≠ .object C) (h : (Cond.arrayClass ty).before args s = true) : ∃ c : ClassId, ArrOfT s c ty ∧ va_RA s c ty := by
  obtain ⟨c, k, comp, h1, h2, h3⟩ := Cond.arrayClass_spec (show (Cond.arrayClass ty).holds args s none s [] = true from h)
  refine ⟨c, fun n z => ⟨fun k h => (by cases h), k, h2, comp, h3⟩, ?_⟩
  cases ty with
  | object C => exact absurd rfl (hp C)
  | _ => exact h1
theorem arr_obj {C : String} {args : Array Value} (h : (Cond.arrayOver (.object C)).before args s = true) : ∃ c : ClassId, ArrOfT s c (.object C) ∧ va_RA s c (.object C) := by
  obtain ⟨comp, c, k, h1, -, h2, h3, h4⟩ := Cond.arrayOver_spec (show (Cond.arrayOver (.object C)).holds args s none s [] = true from h)
  exact ⟨c, fun n z => ⟨fun k h => (by cases h), k, h2, comp, h3⟩, k, comp, h2, h3, h1, h4⟩
theorem arr_arr {t : FieldType} {args : Array Value} (h : (Cond.arrayOver (.array t)).before args s = true) : ∃ c : ClassId, ArrOfT s c (.array t) ∧ va_RA s c (.array t) := by
  obtain ⟨comp, c, k, h1, h2, h3, h4⟩ := Cond.arrayOver_specA (show (Cond.arrayOver (.array t)).holds args s none s [] = true from h)
  exact ⟨c, fun n z => ⟨fun k h => (by cases h), k, h2, comp, h3⟩, h4⟩
set_option maxHeartbeats 4000000 in
set_option maxRecDepth 100000 in
theorem ws_start (hts : ∀ w ∈ lw_tbl, w.before #[Value.ref b] s = true) (hgv : (Jvm.Cond.and given_1 narrow_1).before #[Value.ref b] s = true) : ∃ (D : va_G) (cA : Nat → ClassId) (z mi : Nat), Ws D cA s.heap.size z mi s := by
  have hfl := flat_of_before _ hgv
  have hA : ∀ a : Nat, a < s.heap.size → ¬ oA s.heap.size a := fun a h => Nat.not_le.mpr h
  have kn : ∀ k : Nat, ∃ ci : ClassId × (Nat → Nat), ∀ q : vw_C, hp_cl[k]? = some q → u_Kn s q.1 q.2.1 q.2.2 ci.1 ci.2 := by
    intro k
    match k with
    | 0 =>
      obtain ⟨c, i, h⟩ := u_known (C := "java/util/ArrayList") (T := T_0) (N := 3) (n := 3) hts ly_0 (hts (.instantiable "java/util/ArrayList" 3) (tb_r 36 (by decide +kernel)))
      exact ⟨(c, i), fun q hq => by cases hq; exact h⟩
    | 1 =>
      obtain ⟨c, i, h⟩ := u_known (C := "WeaveCore$Agent") (T := T_1) (N := 3) (n := 3) hts ly_1 (hts (.instantiable "WeaveCore$Agent" 3) (tb_r 65 (by decide +kernel)))
      exact ⟨(c, i), fun q hq => by cases hq; exact h⟩
    | 2 =>
      obtain ⟨c, i, h⟩ := u_known (C := "WeaveCore$Cut") (T := T_2) (N := 6) (n := 6) hts ly_2 (hts (.instantiable "WeaveCore$Cut" 6) (tb_r 598 (by decide +kernel)))
      exact ⟨(c, i), fun q hq => by cases hq; exact h⟩
    | 3 =>
      obtain ⟨c, i, h⟩ := u_known (C := "WeaveCore$Node") (T := T_3) (N := 13) (n := 13) hts ly_3 (hts (.instantiable "WeaveCore$Node" 13) (tb_r 64 (by decide +kernel)))
      exact ⟨(c, i), fun q hq => by cases hq; exact h⟩
    | 4 =>
      obtain ⟨c, i, h⟩ := u_known (C := "WeaveCore") (T := T_4) (N := 8) (n := 8) hts ly_4 (hts (.instantiable "WeaveCore" 8) (tb_r 26 (by decide +kernel)))
      exact ⟨(c, i), fun q hq => by cases hq; exact h⟩
    | 5 =>
      obtain ⟨c, i, h⟩ := u_known (C := "WeaveCoreModel$Graph") (T := T_5) (N := 22) (n := 22) hts ly_5 (hts (.instantiable "WeaveCoreModel$Graph" 22) (tb_r 690 (by decide +kernel)))
      exact ⟨(c, i), fun q hq => by cases hq; exact h⟩
    | 6 =>
      obtain ⟨c, i, h⟩ := u_known (C := "WeaveCoreModel") (T := T_6) (N := 6) (n := 6) hts ly_6 (hts (.instantiable "WeaveCoreModel" 6) (tb_r 684 (by decide +kernel)))
      exact ⟨(c, i), fun q hq => by cases hq; exact h⟩
    | k + 7 => exact ⟨(default, fun _ => 0), fun q hq => by cases hq⟩
  obtain ⟨f, hf⟩ := Classical.axiomOfChoice kn
  obtain ⟨c0, a0⟩ := arr_prim (ty := .int) (fun C h => by cases h) (hts _ (tb_r 88 (by decide +kernel)))
  obtain ⟨c1, a1⟩ := arr_prim (ty := .short) (fun C h => by cases h) (hts _ (tb_r 778 (by decide +kernel)))
  obtain ⟨c2, a2⟩ := arr_prim (ty := .boolean) (fun C h => by cases h) (hts _ (tb_r 779 (by decide +kernel)))
  obtain ⟨c3, a3⟩ := arr_prim (ty := .long) (fun C h => by cases h) (hts _ (tb_r 1057 (by decide +kernel)))
  have o4 := hts (.arrayOver (.object "WeaveCore$Agent")) (tb_r 34 (by decide +kernel))
  have o5 := hts (.arrayOver (.object "WeaveCore$Event")) (tb_r 62 (by decide +kernel))
  have o6 := hts (.arrayOver (.object "java/lang/Object")) (tb_r 576 (by decide +kernel))
  have o7 := hts (.arrayOver (.array .int)) (tb_r 696 (by decide +kernel))
  obtain ⟨c4, a4⟩ := arr_obj o4
  obtain ⟨c5, a5⟩ := arr_obj o5
  obtain ⟨c6, a6⟩ := arr_obj o6
  obtain ⟨c7, a7⟩ := arr_arr o7
  obtain ⟨z, hz, hzT⟩ := va_Tof (N := 0) (f := fun _ => .null) (by decide) (hfl (.arrayOf (.static "java/util/ArrayList" "DEFAULTCAPACITY_EMPTY_ELEMENTDATA" "[Ljava/lang/Object;") (.object "java/lang/Object")) (by decide +kernel)) (va_eqt (hfl (.eq (.length (.static "java/util/ArrayList" "DEFAULTCAPACITY_EMPTY_ELEMENTDATA" "[Ljava/lang/Object;")) (.int 0)) (by decide +kernel))) (fun j hj => absurd hj (Nat.not_lt_zero j)) hA
  obtain ⟨mi, hmi⟩ := va_Mi.of (hfl (.isRef (.mirror "[Ljava/lang/Object;")) (by decide +kernel))
  refine ⟨(fun k => (f k).1, fun k => (f k).2), fun k => match k with | 100 => c0 | 101 => c1 | 102 => c2 | 103 => c3 | 104 => c4 | 105 => c5 | 106 => c6 | _ => c7, z, mi, ⟨fun k q hq => hf k q hq, fun k q hq => ?_⟩, Nat.le_refl _, fun k q hq w hw a' => ?_, vx_Zqof (hts _ (tb_r 276 (by decide +kernel))) (hts _ (tb_r 12 (by decide +kernel))) (hfl (.isRef (.static "java/lang/Throwable" "UNASSIGNED_STACK" "[Ljava/lang/StackTraceElement;")) (by decide +kernel)) hA, vx_Zqof (hts _ (tb_r 278 (by decide +kernel))) (hts _ (tb_r 12 (by decide +kernel))) (hfl (.isRef (.static "java/lang/Throwable" "SUPPRESSED_SENTINEL" "Ljava/util/List;")) (by decide +kernel)) hA, va_Zof (hts _ (tb_r 48 (by decide +kernel))) (hts _ (tb_r 4 (by decide +kernel))) hz hA, hzT, fun q hq => ?_, va_Nc.of (hfl (.not (.castable "WeaveCore$Cut" "WeaveCore$Node")) (by decide +kernel)), fun i j hi hj hij => ?_, fun i hi => ?_, va_Nw.of rfl (hts _ (tb_r 691 (by decide +kernel))), va_Nw.of rfl (hts _ (tb_r 1015 (by decide +kernel))), va_AO.of o4, va_AO.of o5, va_AO.of o6, o7, hmi, fun x hx => ?_⟩
  · match k, hq with
    | 0, hq => cases hq; exact a0
    | 1, hq => cases hq; exact a1
    | 2, hq => cases hq; exact a2
    | 3, hq => cases hq; exact a3
    | 4, hq => cases hq; exact a4
    | 5, hq => cases hq; exact a5
    | 6, hq => cases hq; exact a6
    | 7, hq => cases hq; exact a7
    | k + 8, hq => cases hq
  · have hin : w ∈ lw_tbl := by
      match k, hq with
      | 0, hq => cases hq; exact ly_0 w hw
      | 1, hq => cases hq; exact ly_1 w hw
      | 2, hq => cases hq; exact ly_2 w hw
      | 3, hq => cases hq; exact ly_3 w hw
      | 4, hq => cases hq; exact ly_4 w hw
      | 5, hq => cases hq; exact ly_5 w hw
      | 6, hq => cases hq; exact ly_6 w hw
      | k + 7, hq => cases hq
    obtain ⟨j, -, rfl⟩ := List.mem_map.mp hw
    exact va_Nw.use (lay_ot _ _ _) (va_Nw.of (lay_ot _ _ _) (hts _ hin))
  · have hc : Cond.castable q.1 q.2 ∈ lw_tbl := by
      rcases List.mem_cons.mp hq with rfl | hq
      · exact tb_r 1059 (by decide +kernel)
      rcases List.mem_cons.mp hq with rfl | hq
      · exact tb_r 1060 (by decide +kernel)
      rcases List.mem_cons.mp hq with rfl | hq
      · exact tb_r 1061 (by decide +kernel)
      rcases List.mem_cons.mp hq with rfl | hq
      · exact tb_r 1066 (by decide +kernel)
      rcases List.mem_cons.mp hq with rfl | hq
      · exact tb_r 1070 (by decide +kernel)
      rcases List.mem_cons.mp hq with rfl | hq
      · exact tb_r 464 (by decide +kernel)
      cases hq
    exact va_Nw.of rfl (hts _ hc)
  · have c5 : ∀ i, i < 5 → i = 0 ∨ i = 1 ∨ i = 2 ∨ i = 3 ∨ i = 4 := fun i hi => by omega
    rcases c5 i hi with rfl | rfl | rfl | rfl | rfl <;> rcases c5 j hj with rfl | rfl | rfl | rfl | rfl <;> first | exact absurd rfl hij | exact va_Nc.of (hfl _ (by decide +kernel))
  · have c5 : i = 0 ∨ i = 1 ∨ i = 2 ∨ i = 3 ∨ i = 4 := by omega
    rcases c5 with rfl | rfl | rfl | rfl | rfl
    · exact va_Nw.of rfl (hts _ (tb_r 251 (by decide +kernel)))
    · exact va_Nw.of rfl (hts _ (tb_r 320 (by decide +kernel)))
    · exact va_Nw.of rfl (hts _ (tb_r 335 (by decide +kernel)))
    · exact va_Nw.of rfl (hts _ (tb_r 415 (by decide +kernel)))
    · exact va_Nw.of rfl (hts _ (tb_r 434 (by decide +kernel)))
  · have hc : Cond.declares x ∈ lw_tbl := by
      rcases List.mem_cons.mp hx with rfl | hx
      · exact tb_r 252 (by decide +kernel)
      rcases List.mem_cons.mp hx with rfl | hx
      · exact tb_r 253 (by decide +kernel)
      rcases List.mem_cons.mp hx with rfl | hx
      · exact tb_r 254 (by decide +kernel)
      rcases List.mem_cons.mp hx with rfl | hx
      · exact tb_r 255 (by decide +kernel)
      rcases List.mem_cons.mp hx with rfl | hx
      · exact tb_r 256 (by decide +kernel)
      rcases List.mem_cons.mp hx with rfl | hx
      · exact tb_r 257 (by decide +kernel)
      rcases List.mem_cons.mp hx with rfl | hx
      · exact tb_r 389 (by decide +kernel)
      rcases List.mem_cons.mp hx with rfl | hx
      · exact tb_r 493 (by decide +kernel)
      rcases List.mem_cons.mp hx with rfl | hx
      · exact tb_r 1064 (by decide +kernel)
      cases hx
    exact va_Nw.of rfl (hts _ hc)
def g00 : Sg := (fun _ => none, fun _ _ => 0, fun _ _ => none, fun _ _ => 0, fun _ _ => none, fun _ _ => 0)
theorem wp_00 (D : va_G) (cA : Nat → ClassId) (sz : Nat) (H : Heap) : WP D cA sz g00 H :=
  ⟨[], fun a => ⟨fun h => (by cases h), fun h => absurd rfl h⟩, fun k q h => by simp [va_pl] at h, fun i j p q h => by simp [va_pl] at h, fun k q h => by simp [va_pl] at h⟩
end WST
