theorem nkX10_26 : decide (Cond.methodLinkNest RX10 26 yX2_init "SidingOrders" ∈ NW) = true := by decide +kernel
theorem dpX2_init : (decide (yX2_init.cls ≠ "java/lang/invoke/MethodHandle") && decide (yX2_init.cls ≠ "java/lang/invoke/VarHandle") && decide ((parseMethodDescriptor yX2_init.desc).map (fun d => d.parameters.length) = some 0)) = true := by decide +kernel
theorem lkX10_26 : ∀ w ∈ [Cond.instanceMethod yX2_init, .initialized yX2_init.cls, .code yX2_init cX2_init 1 none], w ∈ TG := in_by [119, 77, 120] (by decide +kernel)
theorem nkX5_17 : decide (Cond.methodLinkNest RX5 17 yX4_init "SidingOrders" ∈ NW) = true := by decide +kernel
theorem dpX4_init : (decide (yX4_init.cls ≠ "java/lang/invoke/MethodHandle") && decide (yX4_init.cls ≠ "java/lang/invoke/VarHandle") && decide ((parseMethodDescriptor yX4_init.desc).map (fun d => d.parameters.length) = some 0)) = true := by decide +kernel
theorem lkX5_17 : ∀ w ∈ [Cond.instanceMethod yX4_init, .initialized yX4_init.cls, .code yX4_init cX4_init 1 none], w ∈ TG := in_by [180, 79, 181] (by decide +kernel)
theorem nkX8_21 : decide (Cond.methodLinkNest RX8 21 yX4_init "SidingOrders" ∈ NW) = true := by decide +kernel
theorem lkX8_21 : ∀ w ∈ [Cond.instanceMethod yX4_init, .initialized yX4_init.cls, .code yX4_init cX4_init 1 none], w ∈ TG := in_by [180, 79, 181] (by decide +kernel)
theorem nkX1_11 : decide (Cond.methodLinkNest RX1 11 yX10_init "SidingOrders" ∈ NW) = true := by decide +kernel
theorem dpX10_init : (decide (yX10_init.cls ≠ "java/lang/invoke/MethodHandle") && decide (yX10_init.cls ≠ "java/lang/invoke/VarHandle") && decide ((parseMethodDescriptor yX10_init.desc).map (fun d => d.parameters.length) = some 0)) = true := by decide +kernel
theorem lkX1_11 : ∀ w ∈ [Cond.instanceMethod yX10_init, .initialized yX10_init.cls, .code yX10_init cX10_init 1 none], w ∈ TG := in_by [114, 76, 115] (by decide +kernel)
theorem nkX9_11 : decide (Cond.methodLinkNest RX9 11 yX4_init "SidingOrders" ∈ NW) = true := by decide +kernel
theorem lkX9_11 : ∀ w ∈ [Cond.instanceMethod yX4_init, .initialized yX4_init.cls, .code yX4_init cX4_init 1 none], w ∈ TG := in_by [180, 79, 181] (by decide +kernel)
theorem nkX0_9 : decide (Cond.methodLinkNest RX0 9 yX10_init "SidingOrders" ∈ NW) = true := by decide +kernel
theorem lkX0_9 : ∀ w ∈ [Cond.instanceMethod yX10_init, .initialized yX10_init.cls, .code yX10_init cX10_init 1 none], w ∈ TG := in_by [114, 76, 115] (by decide +kernel)
theorem nkX0_21 : decide (Cond.methodLinkNest RX0 21 yX5_init "SidingOrders" ∈ NW) = true := by decide +kernel
theorem dpX5_init : (decide (yX5_init.cls ≠ "java/lang/invoke/MethodHandle") && decide (yX5_init.cls ≠ "java/lang/invoke/VarHandle") && decide ((parseMethodDescriptor yX5_init.desc).map (fun d => d.parameters.length) = some 0)) = true := by decide +kernel
theorem lkX0_21 : ∀ w ∈ [Cond.instanceMethod yX5_init, .initialized yX5_init.cls, .code yX5_init cX5_init 1 none], w ∈ TG := in_by [175, 78, 176] (by decide +kernel)
theorem nkX7_17 : decide (Cond.methodLinkNest RX7 17 yX4_init "SidingOrders" ∈ NW) = true := by decide +kernel
theorem lkX7_17 : ∀ w ∈ [Cond.instanceMethod yX4_init, .initialized yX4_init.cls, .code yX4_init cX4_init 1 none], w ∈ TG := in_by [180, 79, 181] (by decide +kernel)
theorem olX4_3 : ∀ w ∈ [Cond.methodLink RX4 3 objectInit, .instanceMethod objectInit, .code objectInit ⟨#[0xb1]⟩ 1 none], w ∈ TG := in_by [182, 96, 97] (by decide +kernel)
theorem ar_int : ∀ w ∈ [Cond.arrayClass .int], w ∈ TG := in_by [111] (by decide +kernel)
theorem olX2_3 : ∀ w ∈ [Cond.methodLink RX2 3 objectInit, .instanceMethod objectInit, .code objectInit ⟨#[0xb1]⟩ 1 none], w ∈ TG := in_by [121, 96, 97] (by decide +kernel)
theorem ar_long : ∀ w ∈ [Cond.arrayClass .long], w ∈ TG := in_by [132] (by decide +kernel)
theorem olX3_3 : ∀ w ∈ [Cond.methodLink RX3 3 objectInit, .instanceMethod objectInit, .code objectInit ⟨#[0xb1]⟩ 1 none], w ∈ TG := in_by [102, 96, 97] (by decide +kernel)
theorem olX10_3 : ∀ w ∈ [Cond.methodLink RX10 3 objectInit, .instanceMethod objectInit, .code objectInit ⟨#[0xb1]⟩ 1 none], w ∈ TG := in_by [116, 96, 97] (by decide +kernel)
theorem nwX10_24 : ∀ w ∈ [Cond.classLink RX10 24 RX2, .instantiable RX2 3, .initialized RX2], w ∈ TG := in_by [117, 118, 77] (by decide +kernel)
theorem hfX2 : ∀ k, k < 3 → (parseFieldDescriptor (TX2 k).2.2.1).map defaultValue = some (([.int 0, .null, .null] : List Value).getD k .null) := by decide +kernel
theorem olX5_3 : ∀ w ∈ [Cond.methodLink RX5 3 objectInit, .instanceMethod objectInit, .code objectInit ⟨#[0xb1]⟩ 1 none], w ∈ TG := in_by [177, 96, 97] (by decide +kernel)
theorem nwX5_15 : ∀ w ∈ [Cond.classLink RX5 15 RX4, .instantiable RX4 2, .initialized RX4], w ∈ TG := in_by [178, 179, 79] (by decide +kernel)
theorem hfX4 : ∀ k, k < 2 → (parseFieldDescriptor (TX4 k).2.2.1).map defaultValue = some (([.null, .null] : List Value).getD k .null) := by decide +kernel
theorem olX8_3 : ∀ w ∈ [Cond.methodLink RX8 3 objectInit, .instanceMethod objectInit, .code objectInit ⟨#[0xb1]⟩ 1 none], w ∈ TG := in_by [245, 96, 97] (by decide +kernel)
theorem ar_byte : ∀ w ∈ [Cond.arrayClass .byte], w ∈ TG := in_by [257] (by decide +kernel)
theorem nwX8_19 : ∀ w ∈ [Cond.classLink RX8 19 RX4, .instantiable RX4 2, .initialized RX4], w ∈ TG := in_by [246, 179, 79] (by decide +kernel)
theorem olX1_3 : ∀ w ∈ [Cond.methodLink RX1 3 objectInit, .instanceMethod objectInit, .code objectInit ⟨#[0xb1]⟩ 1 none], w ∈ TG := in_by [288, 96, 97] (by decide +kernel)
theorem nwX1_9 : ∀ w ∈ [Cond.classLink RX1 9 RX10, .instantiable RX10 9, .initialized RX10], w ∈ TG := in_by [289, 113, 76] (by decide +kernel)
theorem hfX10 : ∀ k, k < 9 → (parseFieldDescriptor (TX10 k).2.2.1).map defaultValue = some (([.int 0, .int 0, .int 0, .int 0, .null, .null, .null, .null, .null] : List Value).getD k .null) := by decide +kernel
theorem olX9_3 : ∀ w ∈ [Cond.methodLink RX9 3 objectInit, .instanceMethod objectInit, .code objectInit ⟨#[0xb1]⟩ 1 none], w ∈ TG := in_by [306, 96, 97] (by decide +kernel)
theorem nwX9_9 : ∀ w ∈ [Cond.classLink RX9 9 RX4, .instantiable RX4 2, .initialized RX4], w ∈ TG := in_by [307, 179, 79] (by decide +kernel)
theorem olX0_1 : ∀ w ∈ [Cond.methodLink RX0 1 objectInit, .instanceMethod objectInit, .code objectInit ⟨#[0xb1]⟩ 1 none], w ∈ TG := in_by [222, 96, 97] (by decide +kernel)
theorem nwX0_7 : ∀ w ∈ [Cond.classLink RX0 7 RX10, .instantiable RX10 9, .initialized RX10], w ∈ TG := in_by [223, 113, 76] (by decide +kernel)
theorem nwX0_19 : ∀ w ∈ [Cond.classLink RX0 19 RX5, .instantiable RX5 7, .initialized RX5], w ∈ TG := in_by [224, 174, 78] (by decide +kernel)
theorem hfX5 : ∀ k, k < 7 → (parseFieldDescriptor (TX5 k).2.2.1).map defaultValue = some (([.int 0, .int 0, .int 0, .int 0, .int 0, .null, .null] : List Value).getD k .null) := by decide +kernel
theorem olX7_3 : ∀ w ∈ [Cond.methodLink RX7 3 objectInit, .instanceMethod objectInit, .code objectInit ⟨#[0xb1]⟩ 1 none], w ∈ TG := in_by [263, 96, 97] (by decide +kernel)
theorem nwX7_15 : ∀ w ∈ [Cond.classLink RX7 15 RX4, .instantiable RX4 2, .initialized RX4], w ∈ TG := in_by [264, 179, 79] (by decide +kernel)
def plI : PlS := ((fun _ => 0), (fun _ => 0))
def ocI : OcS := (0, (fun _ => 0), (fun _ => 0))
def ydI : YdS := (0, 0, 0, 0, (fun _ => 0), (fun _ => 0), (fun _ => 0), (fun _ => 0), ocI)
def pdI : PdS := ((fun _ => 0), 0)
def svI : SvS := ((fun _ => 0), (fun _ => 0), plI)
def seI : SeS := ((fun _ => 0), plI, 0, 0, 0)
def ndI : NdS := (0, 0, ydI)
def pyI : PyS := (0, 0, 0, 0, 0, (fun _ => 0), plI)
def imI : ImS := (0, ydI, ydI, pyI)
def thI : ThS := plI
def mI : MS := ((fun _ => 0), (fun _ _ => 0), (fun _ _ => 0))
set_option maxRecDepth 100000 in
set_option maxHeartbeats 2000000 in
theorem c_pl_init : CT yX4_init cX4_init 1 none 1 20 2 12 [.ref 0] [.inr (4, [.null, .null])] (fun v h => v = none ∧ h = hPl 0 plI) := by
  refine CT_of (by decide +kernel) (vs0 := [some (.ref 0)]) rfl rfl (fun X C hq => ?_)
  refine MW_run C okX4_init 0 1 (gs := []) (cf' := (1, [some (.ref 0)], [.ref 0], [.inr (4, [.null, .null])], 2, 12)) rfl trivial ?_
  refine MW_objInit C okX4_init 1 rfl olX4_3 (by decide) ?_
  refine MW_run C okX4_init 2 2 (gs := []) (cf' := (7, [some (.ref 0)], [.int 6, .ref 0], [.inr (4, [.null, .null])], 2, 12)) rfl trivial ?_
  refine MW_newa (bk := 1) (bn := 6) C okX4_init 4 (N := 6) (t := 0) (ty := .int) (a0 := (6, .inl (fun _ => 0))) rfl rfl rfl ar_int (fun _ => rfl) (by decide) (by decide) (by decide) rfl rfl rfl ?_
  refine MW_eq (cf' := (9, [some (.ref 0)], [.ref 1, .ref 0], [.inr (4, [.null, .null]), .inl (0, 6, .inl (fun _ => 0))], 1, 6)) rfl ?_
  refine MW_run C okX4_init 5 3 (gs := []) (cf' := (15, [some (.ref 0)], [.int 6, .ref 0], [.inr (4, [.ref 1, .null]), .inl (0, 6, .inl (fun _ => 0))], 1, 6)) rfl trivial ?_
  refine MW_newa (bk := 0) (bn := 0) C okX4_init 8 (N := 6) (t := 0) (ty := .int) (a0 := (6, .inl (fun _ => 0))) rfl rfl rfl ar_int (fun _ => rfl) (by decide) (by decide) (by decide) rfl rfl rfl ?_
  refine MW_eq (cf' := (17, [some (.ref 0)], [.ref 2, .ref 0], [.inr (4, [.ref 1, .null]), .inl (0, 6, .inl (fun _ => 0)), .inl (0, 6, .inl (fun _ => 0))], 0, 0)) rfl ?_
  refine MW_run C okX4_init 9 1 (gs := []) (cf' := (20, [some (.ref 0)], [], [.inr (4, [.ref 1, .ref 2]), .inl (0, 6, .inl (fun _ => 0)), .inl (0, 6, .inl (fun _ => 0))], 0, 0)) rfl trivial ?_
  exact MW_vret C okX4_init hq 10 rfl ⟨rfl, rfl⟩
set_option maxRecDepth 100000 in
set_option maxHeartbeats 2000000 in
theorem c_oc_init : CT yX2_init cX2_init 1 none 1 20 2 306 [.ref 0] [.inr (2, [.int 0, .null, .null])] (fun v h => v = none ∧ h = hOc 0 ocI) := by
  refine CT_of (by decide +kernel) (vs0 := [some (.ref 0)]) rfl rfl (fun X C hq => ?_)
  refine MW_run C okX2_init 0 1 (gs := []) (cf' := (1, [some (.ref 0)], [.ref 0], [.inr (2, [.int 0, .null, .null])], 2, 306)) rfl trivial ?_
  refine MW_objInit C okX2_init 1 rfl olX2_3 (by decide) ?_
  refine MW_run C okX2_init 2 2 (gs := []) (cf' := (8, [some (.ref 0)], [.int 153, .ref 0], [.inr (2, [.int 0, .null, .null])], 2, 306)) rfl trivial ?_
  refine MW_newa (bk := 1) (bn := 153) C okX2_init 4 (N := 153) (t := 0) (ty := .int) (a0 := (153, .inl (fun _ => 0))) rfl rfl rfl ar_int (fun _ => rfl) (by decide) (by decide) (by decide) rfl rfl rfl ?_
  refine MW_eq (cf' := (10, [some (.ref 0)], [.ref 1, .ref 0], [.inr (2, [.int 0, .null, .null]), .inl (0, 153, .inl (fun _ => 0))], 1, 153)) rfl ?_
  refine MW_run C okX2_init 5 3 (gs := []) (cf' := (17, [some (.ref 0)], [.int 153, .ref 0], [.inr (2, [.int 0, .ref 1, .null]), .inl (0, 153, .inl (fun _ => 0))], 1, 153)) rfl trivial ?_
  refine MW_newa (bk := 0) (bn := 0) C okX2_init 8 (N := 153) (t := 1) (ty := .long) (a0 := (153, .inr (.inl (fun _ => 0)))) rfl rfl rfl ar_long (fun _ => rfl) (by decide) (by decide) (by decide) rfl rfl rfl ?_
  refine MW_eq (cf' := (19, [some (.ref 0)], [.ref 2, .ref 0], [.inr (2, [.int 0, .ref 1, .null]), .inl (0, 153, .inl (fun _ => 0)), .inl (1, 153, .inr (.inl (fun _ => 0)))], 0, 0)) rfl ?_
  refine MW_run C okX2_init 9 1 (gs := []) (cf' := (22, [some (.ref 0)], [], [.inr (2, [.int 0, .ref 1, .ref 2]), .inl (0, 153, .inl (fun _ => 0)), .inl (1, 153, .inr (.inl (fun _ => 0)))], 0, 0)) rfl trivial ?_
  exact MW_vret C okX2_init hq 10 rfl ⟨rfl, rfl⟩
set_option maxRecDepth 100000 in
set_option maxHeartbeats 2000000 in
theorem c_pd_init : CT yX3_init cX3_init 1 none 1 20 1 16 [.ref 0] [.inr (3, [.null, .int 0])] (fun v h => v = none ∧ h = hPd 0 pdI) := by
  refine CT_of (by decide +kernel) (vs0 := [some (.ref 0)]) rfl rfl (fun X C hq => ?_)
  refine MW_run C okX3_init 0 1 (gs := []) (cf' := (1, [some (.ref 0)], [.ref 0], [.inr (3, [.null, .int 0])], 1, 16)) rfl trivial ?_
  refine MW_objInit C okX3_init 1 rfl olX3_3 (by decide) ?_
  refine MW_run C okX3_init 2 2 (gs := []) (cf' := (7, [some (.ref 0)], [.int 16, .ref 0], [.inr (3, [.null, .int 0])], 1, 16)) rfl trivial ?_
  refine MW_newa (bk := 0) (bn := 0) C okX3_init 4 (N := 16) (t := 0) (ty := .int) (a0 := (16, .inl (fun _ => 0))) rfl rfl rfl ar_int (fun _ => rfl) (by decide) (by decide) (by decide) rfl rfl rfl ?_
  refine MW_eq (cf' := (9, [some (.ref 0)], [.ref 1, .ref 0], [.inr (3, [.null, .int 0]), .inl (0, 16, .inl (fun _ => 0))], 0, 0)) rfl ?_
  refine MW_run C okX3_init 5 1 (gs := []) (cf' := (12, [some (.ref 0)], [], [.inr (3, [.ref 1, .int 0]), .inl (0, 16, .inl (fun _ => 0))], 0, 0)) rfl trivial ?_
  exact MW_vret C okX3_init hq 6 rfl ⟨rfl, rfl⟩
set_option maxRecDepth 100000 in
set_option maxHeartbeats 2000000 in
theorem c_yd_init : CT yX10_init cX10_init 1 none 2 40 7 385 [.ref 0] [.inr (9, [.int 0, .int 0, .int 0, .int 0, .null, .null, .null, .null, .null])] (fun v h => v = none ∧ h = hYd 0 ydI) := by
  refine CT_of (by decide +kernel) (vs0 := [some (.ref 0)]) rfl rfl (fun X C hq => ?_)
  refine MW_run C okX10_init 0 1 (gs := []) (cf' := (1, [some (.ref 0)], [.ref 0], [.inr (9, [.int 0, .int 0, .int 0, .int 0, .null, .null, .null, .null, .null])], 7, 385)) rfl trivial ?_
  refine MW_objInit C okX10_init 1 rfl olX10_3 (by decide) ?_
  refine MW_run C okX10_init 2 2 (gs := []) (cf' := (6, [some (.ref 0)], [.int 4, .ref 0], [.inr (9, [.int 0, .int 0, .int 0, .int 0, .null, .null, .null, .null, .null])], 7, 385)) rfl trivial ?_
  refine MW_newa (bk := 6) (bn := 381) C okX10_init 4 (N := 4) (t := 0) (ty := .int) (a0 := (4, .inl (fun _ => 0))) rfl rfl rfl ar_int (fun _ => rfl) (by decide) (by decide) (by decide) rfl rfl rfl ?_
  refine MW_eq (cf' := (8, [some (.ref 0)], [.ref 1, .ref 0], [.inr (9, [.int 0, .int 0, .int 0, .int 0, .null, .null, .null, .null, .null]), .inl (0, 4, .inl (fun _ => 0))], 6, 381)) rfl ?_
  refine MW_run C okX10_init 5 3 (gs := []) (cf' := (13, [some (.ref 0)], [.int 4, .ref 0], [.inr (9, [.int 0, .int 0, .int 0, .int 0, .ref 1, .null, .null, .null, .null]), .inl (0, 4, .inl (fun _ => 0))], 6, 381)) rfl trivial ?_
  refine MW_newa (bk := 5) (bn := 377) C okX10_init 8 (N := 4) (t := 0) (ty := .int) (a0 := (4, .inl (fun _ => 0))) rfl rfl rfl ar_int (fun _ => rfl) (by decide) (by decide) (by decide) rfl rfl rfl ?_
  refine MW_eq (cf' := (15, [some (.ref 0)], [.ref 2, .ref 0], [.inr (9, [.int 0, .int 0, .int 0, .int 0, .ref 1, .null, .null, .null, .null]), .inl (0, 4, .inl (fun _ => 0)), .inl (0, 4, .inl (fun _ => 0))], 5, 377)) rfl ?_
  refine MW_run C okX10_init 9 3 (gs := []) (cf' := (20, [some (.ref 0)], [.int 4, .ref 0], [.inr (9, [.int 0, .int 0, .int 0, .int 0, .ref 1, .ref 2, .null, .null, .null]), .inl (0, 4, .inl (fun _ => 0)), .inl (0, 4, .inl (fun _ => 0))], 5, 377)) rfl trivial ?_
  refine MW_newa (bk := 4) (bn := 373) C okX10_init 12 (N := 4) (t := 0) (ty := .int) (a0 := (4, .inl (fun _ => 0))) rfl rfl rfl ar_int (fun _ => rfl) (by decide) (by decide) (by decide) rfl rfl rfl ?_
  refine MW_eq (cf' := (22, [some (.ref 0)], [.ref 3, .ref 0], [.inr (9, [.int 0, .int 0, .int 0, .int 0, .ref 1, .ref 2, .null, .null, .null]), .inl (0, 4, .inl (fun _ => 0)), .inl (0, 4, .inl (fun _ => 0)), .inl (0, 4, .inl (fun _ => 0))], 4, 373)) rfl ?_
  refine MW_run C okX10_init 13 3 (gs := []) (cf' := (28, [some (.ref 0)], [.int 64, .ref 0], [.inr (9, [.int 0, .int 0, .int 0, .int 0, .ref 1, .ref 2, .ref 3, .null, .null]), .inl (0, 4, .inl (fun _ => 0)), .inl (0, 4, .inl (fun _ => 0)), .inl (0, 4, .inl (fun _ => 0))], 4, 373)) rfl trivial ?_
  refine MW_newa (bk := 3) (bn := 309) C okX10_init 16 (N := 64) (t := 0) (ty := .int) (a0 := (64, .inl (fun _ => 0))) rfl rfl rfl ar_int (fun _ => rfl) (by decide) (by decide) (by decide) rfl rfl rfl ?_
  refine MW_eq (cf' := (30, [some (.ref 0)], [.ref 4, .ref 0], [.inr (9, [.int 0, .int 0, .int 0, .int 0, .ref 1, .ref 2, .ref 3, .null, .null]), .inl (0, 4, .inl (fun _ => 0)), .inl (0, 4, .inl (fun _ => 0)), .inl (0, 4, .inl (fun _ => 0)), .inl (0, 64, .inl (fun _ => 0))], 3, 309)) rfl ?_
  refine MW_run C okX10_init 17 2 (gs := []) (cf' := (34, [some (.ref 0)], [.ref 0], [.inr (9, [.int 0, .int 0, .int 0, .int 0, .ref 1, .ref 2, .ref 3, .ref 4, .null]), .inl (0, 4, .inl (fun _ => 0)), .inl (0, 4, .inl (fun _ => 0)), .inl (0, 4, .inl (fun _ => 0)), .inl (0, 64, .inl (fun _ => 0))], 3, 309)) rfl trivial ?_
  refine MW_new (bk := 2) (bn := 306) C okX10_init 19 rfl (ci := 2) (Cn := RX2) (T := TX2) (N := 3) rfl (fs := [.int 0, .null, .null]) nwX10_24 hfX2 rfl rfl rfl rfl ?_
  refine MW_eq (cf' := (37, [some (.ref 0)], [.ref 5, .ref 0], [.inr (9, [.int 0, .int 0, .int 0, .int 0, .ref 1, .ref 2, .ref 3, .ref 4, .null]), .inl (0, 4, .inl (fun _ => 0)), .inl (0, 4, .inl (fun _ => 0)), .inl (0, 4, .inl (fun _ => 0)), .inl (0, 64, .inl (fun _ => 0)), .inr (2, [.int 0, .null, .null])], 2, 306)) rfl ?_
  refine MW_run C okX10_init 20 1 (gs := []) (cf' := (38, [some (.ref 0)], [.ref 5, .ref 5, .ref 0], [.inr (9, [.int 0, .int 0, .int 0, .int 0, .ref 1, .ref 2, .ref 3, .ref 4, .null]), .inl (0, 4, .inl (fun _ => 0)), .inl (0, 4, .inl (fun _ => 0)), .inl (0, 4, .inl (fun _ => 0)), .inl (0, 64, .inl (fun _ => 0)), .inr (2, [.int 0, .null, .null])], 2, 306)) rfl trivial ?_
  refine MW_callIN C okX10_init 21 rfl (rho := [5]) (c_oc_init) lkX10_26 0 dpX2_init (by decide) (rest := [.ref 5, .ref 0]) rfl rfl rfl nkX10_26 rfl rfl rfl rfl rfl (fun v h' hk => Or.inr ⟨rfl, rfl, rfl, rfl⟩) (bk' := 0) (bn' := 0) rfl rfl (fun v h' hk => ?_)
  obtain ⟨rfl, rfl⟩ := hk
  refine MW_eq (cf' := (41, [some (.ref 0)], [.ref 5, .ref 0], [.inr (9, [.int 0, .int 0, .int 0, .int 0, .ref 1, .ref 2, .ref 3, .ref 4, .null]), .inl (0, 4, .inl (fun _ => 0)), .inl (0, 4, .inl (fun _ => 0)), .inl (0, 4, .inl (fun _ => 0)), .inl (0, 64, .inl (fun _ => 0)), .inr (2, [.int 0, .ref 6, .ref 7]), .inl (0, 153, .inl (fun _ => 0)), .inl (1, 153, .inr (.inl (fun _ => 0)))], 0, 0)) rfl ?_
  refine MW_run C okX10_init 22 1 (gs := []) (cf' := (44, [some (.ref 0)], [], [.inr (9, [.int 0, .int 0, .int 0, .int 0, .ref 1, .ref 2, .ref 3, .ref 4, .ref 5]), .inl (0, 4, .inl (fun _ => 0)), .inl (0, 4, .inl (fun _ => 0)), .inl (0, 4, .inl (fun _ => 0)), .inl (0, 64, .inl (fun _ => 0)), .inr (2, [.int 0, .ref 6, .ref 7]), .inl (0, 153, .inl (fun _ => 0)), .inl (1, 153, .inr (.inl (fun _ => 0)))], 0, 0)) rfl trivial ?_
  exact MW_vret C okX10_init hq 23 rfl ⟨rfl, rfl⟩
set_option maxRecDepth 100000 in
set_option maxHeartbeats 2000000 in
theorem c_py_init : CT yX5_init cX5_init 1 none 2 40 4 34 [.ref 0] [.inr (5, [.int 0, .int 0, .int 0, .int 0, .int 0, .null, .null])] (fun v h => v = none ∧ h = hPy 0 pyI) := by
  refine CT_of (by decide +kernel) (vs0 := [some (.ref 0)]) rfl rfl (fun X C hq => ?_)
  refine MW_run C okX5_init 0 1 (gs := []) (cf' := (1, [some (.ref 0)], [.ref 0], [.inr (5, [.int 0, .int 0, .int 0, .int 0, .int 0, .null, .null])], 4, 34)) rfl trivial ?_
  refine MW_objInit C okX5_init 1 rfl olX5_3 (by decide) ?_
  refine MW_run C okX5_init 2 2 (gs := []) (cf' := (7, [some (.ref 0)], [.int 20, .ref 0], [.inr (5, [.int 0, .int 0, .int 0, .int 0, .int 0, .null, .null])], 4, 34)) rfl trivial ?_
  refine MW_newa (bk := 3) (bn := 14) C okX5_init 4 (N := 20) (t := 0) (ty := .int) (a0 := (20, .inl (fun _ => 0))) rfl rfl rfl ar_int (fun _ => rfl) (by decide) (by decide) (by decide) rfl rfl rfl ?_
  refine MW_eq (cf' := (9, [some (.ref 0)], [.ref 1, .ref 0], [.inr (5, [.int 0, .int 0, .int 0, .int 0, .int 0, .null, .null]), .inl (0, 20, .inl (fun _ => 0))], 3, 14)) rfl ?_
  refine MW_run C okX5_init 5 2 (gs := []) (cf' := (13, [some (.ref 0)], [.ref 0], [.inr (5, [.int 0, .int 0, .int 0, .int 0, .int 0, .ref 1, .null]), .inl (0, 20, .inl (fun _ => 0))], 3, 14)) rfl trivial ?_
  refine MW_new (bk := 2) (bn := 12) C okX5_init 7 rfl (ci := 4) (Cn := RX4) (T := TX4) (N := 2) rfl (fs := [.null, .null]) nwX5_15 hfX4 rfl rfl rfl rfl ?_
  refine MW_eq (cf' := (16, [some (.ref 0)], [.ref 2, .ref 0], [.inr (5, [.int 0, .int 0, .int 0, .int 0, .int 0, .ref 1, .null]), .inl (0, 20, .inl (fun _ => 0)), .inr (4, [.null, .null])], 2, 12)) rfl ?_
  refine MW_run C okX5_init 8 1 (gs := []) (cf' := (17, [some (.ref 0)], [.ref 2, .ref 2, .ref 0], [.inr (5, [.int 0, .int 0, .int 0, .int 0, .int 0, .ref 1, .null]), .inl (0, 20, .inl (fun _ => 0)), .inr (4, [.null, .null])], 2, 12)) rfl trivial ?_
  refine MW_callIN C okX5_init 9 rfl (rho := [2]) (c_pl_init) lkX5_17 0 dpX4_init (by decide) (rest := [.ref 2, .ref 0]) rfl rfl rfl nkX5_17 rfl rfl rfl rfl rfl (fun v h' hk => Or.inr ⟨rfl, rfl, rfl, rfl⟩) (bk' := 0) (bn' := 0) rfl rfl (fun v h' hk => ?_)
  obtain ⟨rfl, rfl⟩ := hk
  refine MW_eq (cf' := (20, [some (.ref 0)], [.ref 2, .ref 0], [.inr (5, [.int 0, .int 0, .int 0, .int 0, .int 0, .ref 1, .null]), .inl (0, 20, .inl (fun _ => 0)), .inr (4, [.ref 3, .ref 4]), .inl (0, 6, .inl (fun _ => 0)), .inl (0, 6, .inl (fun _ => 0))], 0, 0)) rfl ?_
  refine MW_run C okX5_init 10 1 (gs := []) (cf' := (23, [some (.ref 0)], [], [.inr (5, [.int 0, .int 0, .int 0, .int 0, .int 0, .ref 1, .ref 2]), .inl (0, 20, .inl (fun _ => 0)), .inr (4, [.ref 3, .ref 4]), .inl (0, 6, .inl (fun _ => 0)), .inl (0, 6, .inl (fun _ => 0))], 0, 0)) rfl trivial ?_
  exact MW_vret C okX5_init hq 11 rfl ⟨rfl, rfl⟩
set_option maxRecDepth 100000 in
set_option maxHeartbeats 2000000 in
theorem c_sv_init : CT yX8_init cX8_init 1 none 2 40 5 34106 [.ref 0] [.inr (7, [.null, .null, .null])] (fun v h => v = none ∧ h = hSv 0 svI) := by
  refine CT_of (by decide +kernel) (vs0 := [some (.ref 0)]) rfl rfl (fun X C hq => ?_)
  refine MW_run C okX8_init 0 1 (gs := []) (cf' := (1, [some (.ref 0)], [.ref 0], [.inr (7, [.null, .null, .null])], 5, 34106)) rfl trivial ?_
  refine MW_objInit C okX8_init 1 rfl olX8_3 (by decide) ?_
  refine MW_run C okX8_init 2 2 (gs := []) (cf' := (8, [some (.ref 0)], [.int 17046, .ref 0], [.inr (7, [.null, .null, .null])], 5, 34106)) rfl trivial ?_
  refine MW_newa (bk := 4) (bn := 17060) C okX8_init 4 (N := 17046) (t := 2) (ty := .byte) (a0 := (17046, .inl (fun _ => 0))) rfl rfl rfl ar_byte (fun _ => rfl) (by decide) (by decide) (by decide) rfl rfl rfl ?_
  refine MW_eq (cf' := (10, [some (.ref 0)], [.ref 1, .ref 0], [.inr (7, [.null, .null, .null]), .inl (2, 17046, .inl (fun _ => 0))], 4, 17060)) rfl ?_
  refine MW_run C okX8_init 5 3 (gs := []) (cf' := (17, [some (.ref 0)], [.int 17046, .ref 0], [.inr (7, [.ref 1, .null, .null]), .inl (2, 17046, .inl (fun _ => 0))], 4, 17060)) rfl trivial ?_
  refine MW_newa (bk := 3) (bn := 14) C okX8_init 8 (N := 17046) (t := 1) (ty := .long) (a0 := (17046, .inr (.inl (fun _ => 0)))) rfl rfl rfl ar_long (fun _ => rfl) (by decide) (by decide) (by decide) rfl rfl rfl ?_
  refine MW_eq (cf' := (19, [some (.ref 0)], [.ref 2, .ref 0], [.inr (7, [.ref 1, .null, .null]), .inl (2, 17046, .inl (fun _ => 0)), .inl (1, 17046, .inr (.inl (fun _ => 0)))], 3, 14)) rfl ?_
  refine MW_run C okX8_init 9 2 (gs := []) (cf' := (23, [some (.ref 0)], [.ref 0], [.inr (7, [.ref 1, .ref 2, .null]), .inl (2, 17046, .inl (fun _ => 0)), .inl (1, 17046, .inr (.inl (fun _ => 0)))], 3, 14)) rfl trivial ?_
  refine MW_new (bk := 2) (bn := 12) C okX8_init 11 rfl (ci := 4) (Cn := RX4) (T := TX4) (N := 2) rfl (fs := [.null, .null]) nwX8_19 hfX4 rfl rfl rfl rfl ?_
  refine MW_eq (cf' := (26, [some (.ref 0)], [.ref 3, .ref 0], [.inr (7, [.ref 1, .ref 2, .null]), .inl (2, 17046, .inl (fun _ => 0)), .inl (1, 17046, .inr (.inl (fun _ => 0))), .inr (4, [.null, .null])], 2, 12)) rfl ?_
  refine MW_run C okX8_init 12 1 (gs := []) (cf' := (27, [some (.ref 0)], [.ref 3, .ref 3, .ref 0], [.inr (7, [.ref 1, .ref 2, .null]), .inl (2, 17046, .inl (fun _ => 0)), .inl (1, 17046, .inr (.inl (fun _ => 0))), .inr (4, [.null, .null])], 2, 12)) rfl trivial ?_
  refine MW_callIN C okX8_init 13 rfl (rho := [3]) (c_pl_init) lkX8_21 0 dpX4_init (by decide) (rest := [.ref 3, .ref 0]) rfl rfl rfl nkX8_21 rfl rfl rfl rfl rfl (fun v h' hk => Or.inr ⟨rfl, rfl, rfl, rfl⟩) (bk' := 0) (bn' := 0) rfl rfl (fun v h' hk => ?_)
  obtain ⟨rfl, rfl⟩ := hk
  refine MW_eq (cf' := (30, [some (.ref 0)], [.ref 3, .ref 0], [.inr (7, [.ref 1, .ref 2, .null]), .inl (2, 17046, .inl (fun _ => 0)), .inl (1, 17046, .inr (.inl (fun _ => 0))), .inr (4, [.ref 4, .ref 5]), .inl (0, 6, .inl (fun _ => 0)), .inl (0, 6, .inl (fun _ => 0))], 0, 0)) rfl ?_
  refine MW_run C okX8_init 14 1 (gs := []) (cf' := (33, [some (.ref 0)], [], [.inr (7, [.ref 1, .ref 2, .ref 3]), .inl (2, 17046, .inl (fun _ => 0)), .inl (1, 17046, .inr (.inl (fun _ => 0))), .inr (4, [.ref 4, .ref 5]), .inl (0, 6, .inl (fun _ => 0)), .inl (0, 6, .inl (fun _ => 0))], 0, 0)) rfl trivial ?_
  exact MW_vret C okX8_init hq 15 rfl ⟨rfl, rfl⟩
set_option maxRecDepth 100000 in
set_option maxHeartbeats 2000000 in
theorem c_nd_init : CT yX1_init cX1_init 1 none 3 60 8 394 [.ref 0] [.inr (1, [.int 0, .int 0, .null])] (fun v h => v = none ∧ h = hNd 0 ndI) := by
  refine CT_of (by decide +kernel) (vs0 := [some (.ref 0)]) rfl rfl (fun X C hq => ?_)
  refine MW_run C okX1_init 0 1 (gs := []) (cf' := (1, [some (.ref 0)], [.ref 0], [.inr (1, [.int 0, .int 0, .null])], 8, 394)) rfl trivial ?_
  refine MW_objInit C okX1_init 1 rfl olX1_3 (by decide) ?_
  refine MW_run C okX1_init 2 1 (gs := []) (cf' := (5, [some (.ref 0)], [.ref 0], [.inr (1, [.int 0, .int 0, .null])], 8, 394)) rfl trivial ?_
  refine MW_new (bk := 7) (bn := 385) C okX1_init 3 rfl (ci := 9) (Cn := RX10) (T := TX10) (N := 9) rfl (fs := [.int 0, .int 0, .int 0, .int 0, .null, .null, .null, .null, .null]) nwX1_9 hfX10 rfl rfl rfl rfl ?_
  refine MW_eq (cf' := (8, [some (.ref 0)], [.ref 1, .ref 0], [.inr (1, [.int 0, .int 0, .null]), .inr (9, [.int 0, .int 0, .int 0, .int 0, .null, .null, .null, .null, .null])], 7, 385)) rfl ?_
  refine MW_run C okX1_init 4 1 (gs := []) (cf' := (9, [some (.ref 0)], [.ref 1, .ref 1, .ref 0], [.inr (1, [.int 0, .int 0, .null]), .inr (9, [.int 0, .int 0, .int 0, .int 0, .null, .null, .null, .null, .null])], 7, 385)) rfl trivial ?_
  refine MW_callIN C okX1_init 5 rfl (rho := [1]) (c_yd_init) lkX1_11 0 dpX10_init (by decide) (rest := [.ref 1, .ref 0]) rfl rfl rfl nkX1_11 rfl rfl rfl rfl rfl (fun v h' hk => Or.inr ⟨rfl, rfl, rfl, rfl⟩) (bk' := 0) (bn' := 0) rfl rfl (fun v h' hk => ?_)
  obtain ⟨rfl, rfl⟩ := hk
  refine MW_eq (cf' := (12, [some (.ref 0)], [.ref 1, .ref 0], [.inr (1, [.int 0, .int 0, .null]), .inr (9, [.int 0, .int 0, .int 0, .int 0, .ref 2, .ref 3, .ref 4, .ref 5, .ref 6]), .inl (0, 4, .inl (fun _ => 0)), .inl (0, 4, .inl (fun _ => 0)), .inl (0, 4, .inl (fun _ => 0)), .inl (0, 64, .inl (fun _ => 0)), .inr (2, [.int 0, .ref 7, .ref 8]), .inl (0, 153, .inl (fun _ => 0)), .inl (1, 153, .inr (.inl (fun _ => 0)))], 0, 0)) rfl ?_
  refine MW_run C okX1_init 6 1 (gs := []) (cf' := (15, [some (.ref 0)], [], [.inr (1, [.int 0, .int 0, .ref 1]), .inr (9, [.int 0, .int 0, .int 0, .int 0, .ref 2, .ref 3, .ref 4, .ref 5, .ref 6]), .inl (0, 4, .inl (fun _ => 0)), .inl (0, 4, .inl (fun _ => 0)), .inl (0, 4, .inl (fun _ => 0)), .inl (0, 64, .inl (fun _ => 0)), .inr (2, [.int 0, .ref 7, .ref 8]), .inl (0, 153, .inl (fun _ => 0)), .inl (1, 153, .inr (.inl (fun _ => 0)))], 0, 0)) rfl trivial ?_
  exact MW_vret C okX1_init hq 7 rfl ⟨rfl, rfl⟩
set_option maxRecDepth 100000 in
set_option maxHeartbeats 2000000 in
theorem c_th_init : CT yX9_init cX9_init 1 none 2 40 3 14 [.ref 0] [.inr (8, [.null])] (fun v h => v = none ∧ h = hTh 0 thI) := by
  refine CT_of (by decide +kernel) (vs0 := [some (.ref 0)]) rfl rfl (fun X C hq => ?_)
  refine MW_run C okX9_init 0 1 (gs := []) (cf' := (1, [some (.ref 0)], [.ref 0], [.inr (8, [.null])], 3, 14)) rfl trivial ?_
  refine MW_objInit C okX9_init 1 rfl olX9_3 (by decide) ?_
  refine MW_run C okX9_init 2 1 (gs := []) (cf' := (5, [some (.ref 0)], [.ref 0], [.inr (8, [.null])], 3, 14)) rfl trivial ?_
  refine MW_new (bk := 2) (bn := 12) C okX9_init 3 rfl (ci := 4) (Cn := RX4) (T := TX4) (N := 2) rfl (fs := [.null, .null]) nwX9_9 hfX4 rfl rfl rfl rfl ?_
  refine MW_eq (cf' := (8, [some (.ref 0)], [.ref 1, .ref 0], [.inr (8, [.null]), .inr (4, [.null, .null])], 2, 12)) rfl ?_
  refine MW_run C okX9_init 4 1 (gs := []) (cf' := (9, [some (.ref 0)], [.ref 1, .ref 1, .ref 0], [.inr (8, [.null]), .inr (4, [.null, .null])], 2, 12)) rfl trivial ?_
  refine MW_callIN C okX9_init 5 rfl (rho := [1]) (c_pl_init) lkX9_11 0 dpX4_init (by decide) (rest := [.ref 1, .ref 0]) rfl rfl rfl nkX9_11 rfl rfl rfl rfl rfl (fun v h' hk => Or.inr ⟨rfl, rfl, rfl, rfl⟩) (bk' := 0) (bn' := 0) rfl rfl (fun v h' hk => ?_)
  obtain ⟨rfl, rfl⟩ := hk
  refine MW_eq (cf' := (12, [some (.ref 0)], [.ref 1, .ref 0], [.inr (8, [.null]), .inr (4, [.ref 2, .ref 3]), .inl (0, 6, .inl (fun _ => 0)), .inl (0, 6, .inl (fun _ => 0))], 0, 0)) rfl ?_
  refine MW_run C okX9_init 6 1 (gs := []) (cf' := (15, [some (.ref 0)], [], [.inr (8, [.ref 1]), .inr (4, [.ref 2, .ref 3]), .inl (0, 6, .inl (fun _ => 0)), .inl (0, 6, .inl (fun _ => 0))], 0, 0)) rfl trivial ?_
  exact MW_vret C okX9_init hq 7 rfl ⟨rfl, rfl⟩
set_option maxRecDepth 100000 in
set_option maxHeartbeats 2000000 in
theorem c_im_init : CT yX0_init cX0_init 1 none 3 60 21 829 [.ref 0] [.inr (0, [.int 0, .null, .null, .null])] (fun v h => v = none ∧ h = hIm 0 imI) := by
  refine CT_of (by decide +kernel) (vs0 := [some (.ref 0)]) rfl rfl (fun X C hq => ?_)
  refine MW_run C okX0_init 0 1 (gs := []) (cf' := (1, [some (.ref 0)], [.ref 0], [.inr (0, [.int 0, .null, .null, .null])], 21, 829)) rfl trivial ?_
  refine MW_objInit C okX0_init 1 rfl olX0_1 (by decide) ?_
  refine MW_run C okX0_init 2 1 (gs := []) (cf' := (5, [some (.ref 0)], [.ref 0], [.inr (0, [.int 0, .null, .null, .null])], 21, 829)) rfl trivial ?_
  refine MW_new (bk := 20) (bn := 820) C okX0_init 3 rfl (ci := 9) (Cn := RX10) (T := TX10) (N := 9) rfl (fs := [.int 0, .int 0, .int 0, .int 0, .null, .null, .null, .null, .null]) nwX0_7 hfX10 rfl rfl rfl rfl ?_
  refine MW_eq (cf' := (8, [some (.ref 0)], [.ref 1, .ref 0], [.inr (0, [.int 0, .null, .null, .null]), .inr (9, [.int 0, .int 0, .int 0, .int 0, .null, .null, .null, .null, .null])], 20, 820)) rfl ?_
  refine MW_run C okX0_init 4 1 (gs := []) (cf' := (9, [some (.ref 0)], [.ref 1, .ref 1, .ref 0], [.inr (0, [.int 0, .null, .null, .null]), .inr (9, [.int 0, .int 0, .int 0, .int 0, .null, .null, .null, .null, .null])], 20, 820)) rfl trivial ?_
  refine MW_callIN C okX0_init 5 rfl (rho := [1]) (c_yd_init) lkX0_9 0 dpX10_init (by decide) (rest := [.ref 1, .ref 0]) rfl rfl rfl nkX0_9 rfl rfl rfl rfl rfl (fun v h' hk => Or.inr ⟨rfl, rfl, rfl, rfl⟩) (bk' := 13) (bn' := 435) rfl rfl (fun v h' hk => ?_)
  obtain ⟨rfl, rfl⟩ := hk
  refine MW_eq (cf' := (12, [some (.ref 0)], [.ref 1, .ref 0], [.inr (0, [.int 0, .null, .null, .null]), .inr (9, [.int 0, .int 0, .int 0, .int 0, .ref 2, .ref 3, .ref 4, .ref 5, .ref 6]), .inl (0, 4, .inl (fun _ => 0)), .inl (0, 4, .inl (fun _ => 0)), .inl (0, 4, .inl (fun _ => 0)), .inl (0, 64, .inl (fun _ => 0)), .inr (2, [.int 0, .ref 7, .ref 8]), .inl (0, 153, .inl (fun _ => 0)), .inl (1, 153, .inr (.inl (fun _ => 0)))], 13, 435)) rfl ?_
  refine MW_run C okX0_init 6 2 (gs := []) (cf' := (16, [some (.ref 0)], [.ref 0], [.inr (0, [.int 0, .ref 1, .null, .null]), .inr (9, [.int 0, .int 0, .int 0, .int 0, .ref 2, .ref 3, .ref 4, .ref 5, .ref 6]), .inl (0, 4, .inl (fun _ => 0)), .inl (0, 4, .inl (fun _ => 0)), .inl (0, 4, .inl (fun _ => 0)), .inl (0, 64, .inl (fun _ => 0)), .inr (2, [.int 0, .ref 7, .ref 8]), .inl (0, 153, .inl (fun _ => 0)), .inl (1, 153, .inr (.inl (fun _ => 0)))], 13, 435)) rfl trivial ?_
  refine MW_new (bk := 12) (bn := 426) C okX0_init 8 rfl (ci := 9) (Cn := RX10) (T := TX10) (N := 9) rfl (fs := [.int 0, .int 0, .int 0, .int 0, .null, .null, .null, .null, .null]) nwX0_7 hfX10 rfl rfl rfl rfl ?_
  refine MW_eq (cf' := (19, [some (.ref 0)], [.ref 9, .ref 0], [.inr (0, [.int 0, .ref 1, .null, .null]), .inr (9, [.int 0, .int 0, .int 0, .int 0, .ref 2, .ref 3, .ref 4, .ref 5, .ref 6]), .inl (0, 4, .inl (fun _ => 0)), .inl (0, 4, .inl (fun _ => 0)), .inl (0, 4, .inl (fun _ => 0)), .inl (0, 64, .inl (fun _ => 0)), .inr (2, [.int 0, .ref 7, .ref 8]), .inl (0, 153, .inl (fun _ => 0)), .inl (1, 153, .inr (.inl (fun _ => 0))), .inr (9, [.int 0, .int 0, .int 0, .int 0, .null, .null, .null, .null, .null])], 12, 426)) rfl ?_
  refine MW_run C okX0_init 9 1 (gs := []) (cf' := (20, [some (.ref 0)], [.ref 9, .ref 9, .ref 0], [.inr (0, [.int 0, .ref 1, .null, .null]), .inr (9, [.int 0, .int 0, .int 0, .int 0, .ref 2, .ref 3, .ref 4, .ref 5, .ref 6]), .inl (0, 4, .inl (fun _ => 0)), .inl (0, 4, .inl (fun _ => 0)), .inl (0, 4, .inl (fun _ => 0)), .inl (0, 64, .inl (fun _ => 0)), .inr (2, [.int 0, .ref 7, .ref 8]), .inl (0, 153, .inl (fun _ => 0)), .inl (1, 153, .inr (.inl (fun _ => 0))), .inr (9, [.int 0, .int 0, .int 0, .int 0, .null, .null, .null, .null, .null])], 12, 426)) rfl trivial ?_
  refine MW_callIN C okX0_init 10 rfl (rho := [9]) (c_yd_init) lkX0_9 0 dpX10_init (by decide) (rest := [.ref 9, .ref 0]) rfl rfl rfl nkX0_9 rfl rfl rfl rfl rfl (fun v h' hk => Or.inr ⟨rfl, rfl, rfl, rfl⟩) (bk' := 5) (bn' := 41) rfl rfl (fun v h' hk => ?_)
  obtain ⟨rfl, rfl⟩ := hk
  refine MW_eq (cf' := (23, [some (.ref 0)], [.ref 9, .ref 0], [.inr (0, [.int 0, .ref 1, .null, .null]), .inr (9, [.int 0, .int 0, .int 0, .int 0, .ref 2, .ref 3, .ref 4, .ref 5, .ref 6]), .inl (0, 4, .inl (fun _ => 0)), .inl (0, 4, .inl (fun _ => 0)), .inl (0, 4, .inl (fun _ => 0)), .inl (0, 64, .inl (fun _ => 0)), .inr (2, [.int 0, .ref 7, .ref 8]), .inl (0, 153, .inl (fun _ => 0)), .inl (1, 153, .inr (.inl (fun _ => 0))), .inr (9, [.int 0, .int 0, .int 0, .int 0, .ref 10, .ref 11, .ref 12, .ref 13, .ref 14]), .inl (0, 4, .inl (fun _ => 0)), .inl (0, 4, .inl (fun _ => 0)), .inl (0, 4, .inl (fun _ => 0)), .inl (0, 64, .inl (fun _ => 0)), .inr (2, [.int 0, .ref 15, .ref 16]), .inl (0, 153, .inl (fun _ => 0)), .inl (1, 153, .inr (.inl (fun _ => 0)))], 5, 41)) rfl ?_
  refine MW_run C okX0_init 11 2 (gs := []) (cf' := (27, [some (.ref 0)], [.ref 0], [.inr (0, [.int 0, .ref 1, .ref 9, .null]), .inr (9, [.int 0, .int 0, .int 0, .int 0, .ref 2, .ref 3, .ref 4, .ref 5, .ref 6]), .inl (0, 4, .inl (fun _ => 0)), .inl (0, 4, .inl (fun _ => 0)), .inl (0, 4, .inl (fun _ => 0)), .inl (0, 64, .inl (fun _ => 0)), .inr (2, [.int 0, .ref 7, .ref 8]), .inl (0, 153, .inl (fun _ => 0)), .inl (1, 153, .inr (.inl (fun _ => 0))), .inr (9, [.int 0, .int 0, .int 0, .int 0, .ref 10, .ref 11, .ref 12, .ref 13, .ref 14]), .inl (0, 4, .inl (fun _ => 0)), .inl (0, 4, .inl (fun _ => 0)), .inl (0, 4, .inl (fun _ => 0)), .inl (0, 64, .inl (fun _ => 0)), .inr (2, [.int 0, .ref 15, .ref 16]), .inl (0, 153, .inl (fun _ => 0)), .inl (1, 153, .inr (.inl (fun _ => 0)))], 5, 41)) rfl trivial ?_
  refine MW_new (bk := 4) (bn := 34) C okX0_init 13 rfl (ci := 5) (Cn := RX5) (T := TX5) (N := 7) rfl (fs := [.int 0, .int 0, .int 0, .int 0, .int 0, .null, .null]) nwX0_19 hfX5 rfl rfl rfl rfl ?_
  refine MW_eq (cf' := (30, [some (.ref 0)], [.ref 17, .ref 0], [.inr (0, [.int 0, .ref 1, .ref 9, .null]), .inr (9, [.int 0, .int 0, .int 0, .int 0, .ref 2, .ref 3, .ref 4, .ref 5, .ref 6]), .inl (0, 4, .inl (fun _ => 0)), .inl (0, 4, .inl (fun _ => 0)), .inl (0, 4, .inl (fun _ => 0)), .inl (0, 64, .inl (fun _ => 0)), .inr (2, [.int 0, .ref 7, .ref 8]), .inl (0, 153, .inl (fun _ => 0)), .inl (1, 153, .inr (.inl (fun _ => 0))), .inr (9, [.int 0, .int 0, .int 0, .int 0, .ref 10, .ref 11, .ref 12, .ref 13, .ref 14]), .inl (0, 4, .inl (fun _ => 0)), .inl (0, 4, .inl (fun _ => 0)), .inl (0, 4, .inl (fun _ => 0)), .inl (0, 64, .inl (fun _ => 0)), .inr (2, [.int 0, .ref 15, .ref 16]), .inl (0, 153, .inl (fun _ => 0)), .inl (1, 153, .inr (.inl (fun _ => 0))), .inr (5, [.int 0, .int 0, .int 0, .int 0, .int 0, .null, .null])], 4, 34)) rfl ?_
  refine MW_run C okX0_init 14 1 (gs := []) (cf' := (31, [some (.ref 0)], [.ref 17, .ref 17, .ref 0], [.inr (0, [.int 0, .ref 1, .ref 9, .null]), .inr (9, [.int 0, .int 0, .int 0, .int 0, .ref 2, .ref 3, .ref 4, .ref 5, .ref 6]), .inl (0, 4, .inl (fun _ => 0)), .inl (0, 4, .inl (fun _ => 0)), .inl (0, 4, .inl (fun _ => 0)), .inl (0, 64, .inl (fun _ => 0)), .inr (2, [.int 0, .ref 7, .ref 8]), .inl (0, 153, .inl (fun _ => 0)), .inl (1, 153, .inr (.inl (fun _ => 0))), .inr (9, [.int 0, .int 0, .int 0, .int 0, .ref 10, .ref 11, .ref 12, .ref 13, .ref 14]), .inl (0, 4, .inl (fun _ => 0)), .inl (0, 4, .inl (fun _ => 0)), .inl (0, 4, .inl (fun _ => 0)), .inl (0, 64, .inl (fun _ => 0)), .inr (2, [.int 0, .ref 15, .ref 16]), .inl (0, 153, .inl (fun _ => 0)), .inl (1, 153, .inr (.inl (fun _ => 0))), .inr (5, [.int 0, .int 0, .int 0, .int 0, .int 0, .null, .null])], 4, 34)) rfl trivial ?_
  refine MW_callIN C okX0_init 15 rfl (rho := [17]) (c_py_init) lkX0_21 0 dpX5_init (by decide) (rest := [.ref 17, .ref 0]) rfl rfl rfl nkX0_21 rfl rfl rfl rfl rfl (fun v h' hk => Or.inr ⟨rfl, rfl, rfl, rfl⟩) (bk' := 0) (bn' := 0) rfl rfl (fun v h' hk => ?_)
  obtain ⟨rfl, rfl⟩ := hk
  refine MW_eq (cf' := (34, [some (.ref 0)], [.ref 17, .ref 0], [.inr (0, [.int 0, .ref 1, .ref 9, .null]), .inr (9, [.int 0, .int 0, .int 0, .int 0, .ref 2, .ref 3, .ref 4, .ref 5, .ref 6]), .inl (0, 4, .inl (fun _ => 0)), .inl (0, 4, .inl (fun _ => 0)), .inl (0, 4, .inl (fun _ => 0)), .inl (0, 64, .inl (fun _ => 0)), .inr (2, [.int 0, .ref 7, .ref 8]), .inl (0, 153, .inl (fun _ => 0)), .inl (1, 153, .inr (.inl (fun _ => 0))), .inr (9, [.int 0, .int 0, .int 0, .int 0, .ref 10, .ref 11, .ref 12, .ref 13, .ref 14]), .inl (0, 4, .inl (fun _ => 0)), .inl (0, 4, .inl (fun _ => 0)), .inl (0, 4, .inl (fun _ => 0)), .inl (0, 64, .inl (fun _ => 0)), .inr (2, [.int 0, .ref 15, .ref 16]), .inl (0, 153, .inl (fun _ => 0)), .inl (1, 153, .inr (.inl (fun _ => 0))), .inr (5, [.int 0, .int 0, .int 0, .int 0, .int 0, .ref 18, .ref 19]), .inl (0, 20, .inl (fun _ => 0)), .inr (4, [.ref 20, .ref 21]), .inl (0, 6, .inl (fun _ => 0)), .inl (0, 6, .inl (fun _ => 0))], 0, 0)) rfl ?_
  refine MW_run C okX0_init 16 1 (gs := []) (cf' := (37, [some (.ref 0)], [], [.inr (0, [.int 0, .ref 1, .ref 9, .ref 17]), .inr (9, [.int 0, .int 0, .int 0, .int 0, .ref 2, .ref 3, .ref 4, .ref 5, .ref 6]), .inl (0, 4, .inl (fun _ => 0)), .inl (0, 4, .inl (fun _ => 0)), .inl (0, 4, .inl (fun _ => 0)), .inl (0, 64, .inl (fun _ => 0)), .inr (2, [.int 0, .ref 7, .ref 8]), .inl (0, 153, .inl (fun _ => 0)), .inl (1, 153, .inr (.inl (fun _ => 0))), .inr (9, [.int 0, .int 0, .int 0, .int 0, .ref 10, .ref 11, .ref 12, .ref 13, .ref 14]), .inl (0, 4, .inl (fun _ => 0)), .inl (0, 4, .inl (fun _ => 0)), .inl (0, 4, .inl (fun _ => 0)), .inl (0, 64, .inl (fun _ => 0)), .inr (2, [.int 0, .ref 15, .ref 16]), .inl (0, 153, .inl (fun _ => 0)), .inl (1, 153, .inr (.inl (fun _ => 0))), .inr (5, [.int 0, .int 0, .int 0, .int 0, .int 0, .ref 18, .ref 19]), .inl (0, 20, .inl (fun _ => 0)), .inr (4, [.ref 20, .ref 21]), .inl (0, 6, .inl (fun _ => 0)), .inl (0, 6, .inl (fun _ => 0))], 0, 0)) rfl trivial ?_
  exact MW_vret C okX0_init hq 17 rfl ⟨rfl, rfl⟩
set_option maxRecDepth 100000 in
set_option maxHeartbeats 2000000 in
theorem c_se_init (y : YdS) : CT yX7_init cX7_init 2 none 2 40 4 17060 [.ref 0, .ref 1] ([.inr (6, [.null, .null, .int 0, .null, .int 0, .int 0])] ++ hYd 1 y) (fun v h => v = none ∧ h = ([.inr (6, [.ref 9, .ref 10, .int 0, .ref 1, .int 0, .int 0])] ++ (hYd 1 y ++ ([.inl (0, 17046, .inl (fun _ => 0))] ++ hPl 10 plI)))) := by
  refine CT_of (by decide +kernel) (vs0 := [some (.ref 0), some (.ref 1)]) rfl rfl (fun X C hq => ?_)
  refine MW_run C okX7_init 0 1 (gs := []) (cf' := (1, [some (.ref 0), some (.ref 1)], [.ref 0], ([.inr (6, [.null, .null, .int 0, .null, .int 0, .int 0])] ++ (hYd 1 y ++ [])), 4, 17060)) rfl trivial ?_
  refine MW_objInit C okX7_init 1 rfl olX7_3 (by decide) ?_
  refine MW_run C okX7_init 2 2 (gs := []) (cf' := (8, [some (.ref 0), some (.ref 1)], [.int 17046, .ref 0], ([.inr (6, [.null, .null, .int 0, .null, .int 0, .int 0])] ++ (hYd 1 y ++ [])), 4, 17060)) rfl trivial ?_
  refine MW_newa (bk := 3) (bn := 14) C okX7_init 4 (N := 17046) (t := 0) (ty := .int) (a0 := (17046, .inl (fun _ => 0))) rfl rfl rfl ar_int (fun _ => rfl) (by decide) (by decide) (by decide) rfl rfl rfl ?_
  refine MW_eq (cf' := (10, [some (.ref 0), some (.ref 1)], [.ref 9, .ref 0], ([.inr (6, [.null, .null, .int 0, .null, .int 0, .int 0])] ++ (hYd 1 y ++ [.inl (0, 17046, .inl (fun _ => 0))])), 3, 14)) rfl ?_
  refine MW_run C okX7_init 5 2 (gs := []) (cf' := (14, [some (.ref 0), some (.ref 1)], [.ref 0], ([.inr (6, [.ref 9, .null, .int 0, .null, .int 0, .int 0])] ++ (hYd 1 y ++ [.inl (0, 17046, .inl (fun _ => 0))])), 3, 14)) rfl trivial ?_
  refine MW_new (bk := 2) (bn := 12) C okX7_init 7 rfl (ci := 4) (Cn := RX4) (T := TX4) (N := 2) rfl (fs := [.null, .null]) nwX7_15 hfX4 rfl rfl rfl rfl ?_
  refine MW_eq (cf' := (17, [some (.ref 0), some (.ref 1)], [.ref 10, .ref 0], ([.inr (6, [.ref 9, .null, .int 0, .null, .int 0, .int 0])] ++ (hYd 1 y ++ [.inl (0, 17046, .inl (fun _ => 0)), .inr (4, [.null, .null])])), 2, 12)) rfl ?_
  refine MW_run C okX7_init 8 1 (gs := []) (cf' := (18, [some (.ref 0), some (.ref 1)], [.ref 10, .ref 10, .ref 0], ([.inr (6, [.ref 9, .null, .int 0, .null, .int 0, .int 0])] ++ (hYd 1 y ++ [.inl (0, 17046, .inl (fun _ => 0)), .inr (4, [.null, .null])])), 2, 12)) rfl trivial ?_
  refine MW_callIN C okX7_init 9 rfl (rho := [10]) (c_pl_init) lkX7_17 0 dpX4_init (by decide) (rest := [.ref 10, .ref 0]) rfl rfl rfl nkX7_17 rfl rfl rfl rfl rfl (fun v h' hk => Or.inr ⟨rfl, rfl, rfl, rfl⟩) (bk' := 0) (bn' := 0) rfl rfl (fun v h' hk => ?_)
  obtain ⟨rfl, rfl⟩ := hk
  refine MW_eq (cf' := (21, [some (.ref 0), some (.ref 1)], [.ref 10, .ref 0], ([.inr (6, [.ref 9, .null, .int 0, .null, .int 0, .int 0])] ++ (hYd 1 y ++ [.inl (0, 17046, .inl (fun _ => 0)), .inr (4, [.ref 11, .ref 12]), .inl (0, 6, .inl (fun _ => 0)), .inl (0, 6, .inl (fun _ => 0))])), 0, 0)) rfl ?_
  refine MW_run C okX7_init 10 4 (gs := []) (cf' := (29, [some (.ref 0), some (.ref 1)], [], ([.inr (6, [.ref 9, .ref 10, .int 0, .ref 1, .int 0, .int 0])] ++ (hYd 1 y ++ [.inl (0, 17046, .inl (fun _ => 0)), .inr (4, [.ref 11, .ref 12]), .inl (0, 6, .inl (fun _ => 0)), .inl (0, 6, .inl (fun _ => 0))])), 0, 0)) rfl trivial ?_
  exact MW_vret C okX7_init hq 14 rfl ⟨rfl, rfl⟩
