section CT5
variable {l : Launch}
abbrev tx0 : txP := (z0, 0, 0)
abbrev tr0 : trP := (z0, (z0, z0, z0), (fun _ => 0), z0, 0)
abbrev fn0 : fnP := (z0, z0, 0)
abbrev pg0 : pgP := ((z0, 0), z0, 0)
abbrev tb0 : tbP := ((fun _ => 0), z0, 0, 0)
abbrev st0 : List pm_E := stN tx0 tr0 tr0 fn0 pg0 tb0 tb0
theorem nw_3 : Cond.classLink RX5 7 RX3 ∈ pm_tb ∧ Cond.instantiable RX3 3 ∈ pm_tb ∧ Cond.initialized RX3 ∈ pm_tb ∧ Cond.methodLinkNest RX5 9 yX3_init "ShortTrees" ∈ pm_ng := by decide +kernel
theorem nf_3 : ∀ j, j < 3 → defaultValue (pm_ty 3 j) = vp_V [.null, .int (nI 0), .int (nI 0)] j := by decide +kernel
theorem nw_4 : Cond.classLink RX5 16 RX4 ∈ pm_tb ∧ Cond.instantiable RX4 7 ∈ pm_tb ∧ Cond.initialized RX4 ∈ pm_tb ∧ Cond.methodLinkNest RX5 18 yX4_init "ShortTrees" ∈ pm_ng := by decide +kernel
theorem nf_4 : ∀ j, j < 7 → defaultValue (pm_ty 4 j) = vp_V [.null, .null, .null, .null, .null, .null, .int (nI 0)] j := by decide +kernel
theorem nw_0 : Cond.classLink RX5 26 RX0 ∈ pm_tb ∧ Cond.instantiable RX0 3 ∈ pm_tb ∧ Cond.initialized RX0 ∈ pm_tb ∧ Cond.methodLinkNest RX5 28 yX0_init "ShortTrees" ∈ pm_ng := by decide +kernel
theorem nf_0 : ∀ j, j < 3 → defaultValue (pm_ty 0 j) = vp_V [.null, .null, .int (nI 0)] j := by decide +kernel
theorem nw_1 : Cond.classLink RX5 33 RX1 ∈ pm_tb ∧ Cond.instantiable RX1 4 ∈ pm_tb ∧ Cond.initialized RX1 ∈ pm_tb ∧ Cond.methodLinkNest RX5 35 yX1_init "ShortTrees" ∈ pm_ng := by decide +kernel
theorem nf_1 : ∀ j, j < 4 → defaultValue (pm_ty 1 j) = vp_V [.null, .null, .int (nI 0), .int (nI 0)] j := by decide +kernel
theorem nw_2 : Cond.classLink RX5 40 RX2 ∈ pm_tb ∧ Cond.instantiable RX2 4 ∈ pm_tb ∧ Cond.initialized RX2 ∈ pm_tb ∧ Cond.methodLinkNest RX5 42 yX2_init "ShortTrees" ∈ pm_ng := by decide +kernel
theorem nf_2 : ∀ j, j < 4 → defaultValue (pm_ty 2 j) = vp_V [.null, .null, .int (nI 0), .int (nI 0)] j := by decide +kernel
theorem ob_5 : ∀ x ∈ [Cond.methodLink RX5 1 Lib.objectInit, Cond.instanceMethod Lib.objectInit, Cond.code Lib.objectInit ⟨#[0xb1]⟩ 1 none], x ∈ pm_tb := by decide +kernel
theorem iw_5 : ∀ x ∈ [Cond.initialized yX5_init.cls, Cond.instanceMethod yX5_init, Cond.code yX5_init cX5_init 1 none], x ∈ pm_tb := by decide +kernel
theorem iy_5 : yX5_init.cls ≠ "java/lang/invoke/MethodHandle" ∧ yX5_init.cls ≠ "java/lang/invoke/VarHandle" ∧ (parseMethodDescriptor yX5_init.desc).map (fun d => d.parameters.length) = some 0 := by decide +kernel
set_option maxRecDepth 100000 in
theorem n_Short : pm_New l mX5_init 2 28 1482 5 [.null, .null, .null, .null, .null, .null, .null] st0 := by
  refine pm_New.mk kX5_init (fun _ => rfl) (nJ.run [] 20 (fun K hK => hK _ ?_))
  refine nJ.obj ob_5 ?_
  refine nJ.run [] 20 (fun K hK => hK _ ?_)
  refine nJ.new (ci := 3) (N := 3) [.null, .int (nI 0), .int (nI 0)] nw_3.1 nw_3.2.1 nw_3.2.2.1 nf_3 (fun _ => rfl) ?_
  refine nJ.run [] 20 (fun K hK => hK _ ?_)
  refine nJ.callI n_Text (fun _ => rfl) iw_3 nw_3.2.2.2 iy_3 ?_
  refine nJ.putF kX5_init ?_
  refine nJ.run [] 20 (fun K hK => hK _ ?_)
  refine nJ.new (ci := 4) (N := 7) [.null, .null, .null, .null, .null, .null, .int (nI 0)] nw_4.1 nw_4.2.1 nw_4.2.2.1 nf_4 (fun _ => rfl) ?_
  refine nJ.run [] 20 (fun K hK => hK _ ?_)
  refine nJ.callI n_Tree (fun _ => rfl) iw_4 nw_4.2.2.2 iy_4 ?_
  refine nJ.putF kX5_init ?_
  refine nJ.run [] 20 (fun K hK => hK _ ?_)
  refine nJ.new (ci := 4) (N := 7) [.null, .null, .null, .null, .null, .null, .int (nI 0)] nw_4.1 nw_4.2.1 nw_4.2.2.1 nf_4 (fun _ => rfl) ?_
  refine nJ.run [] 20 (fun K hK => hK _ ?_)
  refine nJ.callI n_Tree (fun _ => rfl) iw_4 nw_4.2.2.2 iy_4 ?_
  refine nJ.putF kX5_init ?_
  refine nJ.run [] 20 (fun K hK => hK _ ?_)
  refine nJ.new (ci := 0) (N := 3) [.null, .null, .int (nI 0)] nw_0.1 nw_0.2.1 nw_0.2.2.1 nf_0 (fun _ => rfl) ?_
  refine nJ.run [] 20 (fun K hK => hK _ ?_)
  refine nJ.callI n_Finds (fun _ => rfl) iw_0 nw_0.2.2.2 iy_0 ?_
  refine nJ.putF kX5_init ?_
  refine nJ.run [] 20 (fun K hK => hK _ ?_)
  refine nJ.new (ci := 1) (N := 4) [.null, .null, .int (nI 0), .int (nI 0)] nw_1.1 nw_1.2.1 nw_1.2.2.1 nf_1 (fun _ => rfl) ?_
  refine nJ.run [] 20 (fun K hK => hK _ ?_)
  refine nJ.callI n_Page (fun _ => rfl) iw_1 nw_1.2.2.2 iy_1 ?_
  refine nJ.putF kX5_init ?_
  refine nJ.run [] 20 (fun K hK => hK _ ?_)
  refine nJ.new (ci := 2) (N := 4) [.null, .null, .int (nI 0), .int (nI 0)] nw_2.1 nw_2.2.1 nw_2.2.2.1 nf_2 (fun _ => rfl) ?_
  refine nJ.run [] 20 (fun K hK => hK _ ?_)
  refine nJ.callI n_Table (fun _ => rfl) iw_2 nw_2.2.2.2 iy_2 ?_
  refine nJ.run [] 20 (fun K hK => hK _ ?_)
  refine nJ.new (ci := 2) (N := 4) [.null, .null, .int (nI 0), .int (nI 0)] nw_2.1 nw_2.2.1 nw_2.2.2.1 nf_2 (fun _ => rfl) ?_
  refine nJ.run [] 20 (fun K hK => hK _ ?_)
  refine nJ.callI n_Table (fun _ => rfl) iw_2 nw_2.2.2.2 iy_2 ?_
  refine nJ.run [] 20 (fun K hK => hK _ ?_)
  exact nJ.ret
end CT5
