set_option maxHeartbeats 4000000 in
set_option maxRecDepth 100000 in
theorem c_X0_multiply (l : Launch) (D : va_G) (k : Nat → ClassId) (sz : Nat) (ha hb2 hc : Nat) (u v f : Nat → Int64) : Met l yX0_multiply wsX0_multiply ({ frames := 0, cells := 0, slots := 0, locals := 0 } : Room) (va_Pc [.ref ha, .ref hb2, .ref hc] (zPre D k [(ha, zaJ k 4 u), (hb2, zaJ k 4 v), (hc, zaJ k 4 f)] sz zX0)) (zQv D [(ha, zaJ k 4 u), (hb2, zaJ k 4 v), (hc, zaJ k 4 f)] sz (fun w : va_W => w = [(ha, zaJ k 4 u), (hb2, zaJ k 4 v), (hc, zaJ k 4 (qmul u v))])) 0 0 (va_A [(ha, zaJ k 4 u), (hb2, zaJ k 4 v), (hc, zaJ k 4 f)] sz) := by
  refine Met.ofW (cc := cX0_multiply) (maxL := 3) (ret := none) (by decide) rfl ?_
  intro p e s m args below meth c s₁ B hml hv
  obtain ⟨rfl, hsz, hP, hK, hD0, hE⟩ := hv
  have hx := B.exec
  have hb := B.bytes
  have hr := B.returns
  have hts := atoms_spec (ws := wsX0_multiply) B.pre
  have hown : s.vm.findClass RX0 = some m.cls := findClass_of_methodNamed B.named
  have hlocks := B.notSynchronized
  subst hsz
  have hD := hD0.self (sz := s.heap.size)
  delta zQv zB
  generalize hAe : va_A [(ha, zaJ k 4 u), (hb2, zaJ k 4 v), (hc, zaJ k 4 f)] s.heap.size = A at hD hE ⊢
  have hA : ∀ q : Nat, s.heap.size ≤ q → A q := fun q h => by rw [← hAe]; exact Or.inr h
  have hS : va_S A s.heap s.heap [] := va_S.rf
  have hl := lv_entry [.ref ha, .ref hb2, .ref hc] (n := 3) (Nat.le_of_ble_eq_true rfl)
  rw [lg_entry_eq]
  generalize (lg_sl [.ref ha, .ref hb2, .ref hc] ++ List.replicate (3 - (lg_sl [.ref ha, .ref hb2, .ref hc]).length) Slot.unset).toArray = ls at hl ⊢
  have hl : lv_has ls 3 [(0, .ref ha), (1, .ref hb2), (2, .ref hc)] := hl
  refine lv_aload_n hx hb dX0_multiply_0 rfl (lv_at hl 2 rfl) ?_
  refine lv_iconst (v := 0) hx hb dX0_multiply_1 (by decide) ?_
  refine lv_aload_n hx hb dX0_multiply_2 rfl (lv_at hl 0 rfl) ?_
  refine lv_iconst (v := 0) hx hb dX0_multiply_3 (by decide) ?_
  refine z_lald hx hb hK hP 0 rfl 0 zx0 (by decide) (v := u 0) rfl dX0_multiply_4 ?_
  refine lv_aload_n hx hb dX0_multiply_5 rfl (lv_at hl 1 rfl) ?_
  refine lv_iconst (v := 0) hx hb dX0_multiply_6 (by decide) ?_
  refine z_lald hx hb hK hP 1 rfl 0 zx0 (by decide) (v := v 0) rfl dX0_multiply_7 ?_
  refine lv_lmul hx hb dX0_multiply_8 ?_
  refine lv_aload_n hx hb dX0_multiply_9 rfl (lv_at hl 0 rfl) ?_
  refine lv_iconst (v := 1) hx hb dX0_multiply_10 (by decide) ?_
  refine z_lald hx hb hK hP 0 rfl 1 zx1 (by decide) (v := u 1) rfl dX0_multiply_11 ?_
  refine lv_aload_n hx hb dX0_multiply_12 rfl (lv_at hl 1 rfl) ?_
  refine lv_iconst (v := 1) hx hb dX0_multiply_13 (by decide) ?_
  refine z_lald hx hb hK hP 1 rfl 1 zx1 (by decide) (v := v 1) rfl dX0_multiply_14 ?_
  refine lv_lmul hx hb dX0_multiply_15 ?_
  refine lv_lsub hx hb dX0_multiply_16 ?_
  refine lv_aload_n hx hb dX0_multiply_17 rfl (lv_at hl 0 rfl) ?_
  refine lv_iconst (v := 2) hx hb dX0_multiply_18 (by decide) ?_
  refine z_lald hx hb hK hP 0 rfl 2 zx2 (by decide) (v := u 2) rfl dX0_multiply_19 ?_
  refine lv_aload_n hx hb dX0_multiply_20 rfl (lv_at hl 1 rfl) ?_
  refine lv_iconst (v := 2) hx hb dX0_multiply_21 (by decide) ?_
  refine z_lald hx hb hK hP 1 rfl 2 zx2 (by decide) (v := v 2) rfl dX0_multiply_22 ?_
  refine lv_lmul hx hb dX0_multiply_23 ?_
  refine lv_lsub hx hb dX0_multiply_24 ?_
  refine lv_aload_n hx hb dX0_multiply_25 rfl (lv_at hl 0 rfl) ?_
  refine lv_iconst (v := 3) hx hb dX0_multiply_26 (by decide) ?_
  refine z_lald hx hb hK hP 0 rfl 3 zx3 (by decide) (v := u 3) rfl dX0_multiply_27 ?_
  refine lv_aload_n hx hb dX0_multiply_28 rfl (lv_at hl 1 rfl) ?_
  refine lv_iconst (v := 3) hx hb dX0_multiply_29 (by decide) ?_
  refine z_lald hx hb hK hP 1 rfl 3 zx3 (by decide) (v := v 3) rfl dX0_multiply_30 ?_
  refine lv_lmul hx hb dX0_multiply_31 ?_
  refine lv_lsub hx hb dX0_multiply_32 ?_
  refine lv_bipush (v := 28) hx hb dX0_multiply_33 (by decide) ?_
  refine lv_lshr (v := sar (((((u 0) * (v 0)) - ((u 1) * (v 1))) - ((u 2) * (v 2))) - ((u 3) * (v 3))) 28) hx hb dX0_multiply_35 rfl ?_
  refine z_last hx hb hK hP hD hS 2 rfl 0 zx0 (by decide) (ws' := [(ha, zaJ k 4 u), (hb2, zaJ k 4 v), (hc, zaJ k 4 (vp_updL f 0 (sar (((((u 0) * (v 0)) - ((u 1) * (v 1))) - ((u 2) * (v 2))) - ((u 3) * (v 3))) 28)))]) rfl dX0_multiply_36 (fun H locs hP hD hS => ?_)
  refine lv_aload_n hx hb dX0_multiply_37 rfl (lv_at hl 2 rfl) ?_
  refine lv_iconst (v := 1) hx hb dX0_multiply_38 (by decide) ?_
  refine lv_aload_n hx hb dX0_multiply_39 rfl (lv_at hl 0 rfl) ?_
  refine lv_iconst (v := 0) hx hb dX0_multiply_40 (by decide) ?_
  refine z_lald hx hb hK hP 0 rfl 0 zx0 (by decide) (v := u 0) rfl dX0_multiply_41 ?_
  refine lv_aload_n hx hb dX0_multiply_42 rfl (lv_at hl 1 rfl) ?_
  refine lv_iconst (v := 1) hx hb dX0_multiply_43 (by decide) ?_
  refine z_lald hx hb hK hP 1 rfl 1 zx1 (by decide) (v := v 1) rfl dX0_multiply_44 ?_
  refine lv_lmul hx hb dX0_multiply_45 ?_
  refine lv_aload_n hx hb dX0_multiply_46 rfl (lv_at hl 0 rfl) ?_
  refine lv_iconst (v := 1) hx hb dX0_multiply_47 (by decide) ?_
  refine z_lald hx hb hK hP 0 rfl 1 zx1 (by decide) (v := u 1) rfl dX0_multiply_48 ?_
  refine lv_aload_n hx hb dX0_multiply_49 rfl (lv_at hl 1 rfl) ?_
  refine lv_iconst (v := 0) hx hb dX0_multiply_50 (by decide) ?_
  refine z_lald hx hb hK hP 1 rfl 0 zx0 (by decide) (v := v 0) rfl dX0_multiply_51 ?_
  refine lv_lmul hx hb dX0_multiply_52 ?_
  refine lv_ladd hx hb dX0_multiply_53 ?_
  refine lv_aload_n hx hb dX0_multiply_54 rfl (lv_at hl 0 rfl) ?_
  refine lv_iconst (v := 2) hx hb dX0_multiply_55 (by decide) ?_
  refine z_lald hx hb hK hP 0 rfl 2 zx2 (by decide) (v := u 2) rfl dX0_multiply_56 ?_
  refine lv_aload_n hx hb dX0_multiply_57 rfl (lv_at hl 1 rfl) ?_
  refine lv_iconst (v := 3) hx hb dX0_multiply_58 (by decide) ?_
  refine z_lald hx hb hK hP 1 rfl 3 zx3 (by decide) (v := v 3) rfl dX0_multiply_59 ?_
  refine lv_lmul hx hb dX0_multiply_60 ?_
  refine lv_ladd hx hb dX0_multiply_61 ?_
  refine lv_aload_n hx hb dX0_multiply_62 rfl (lv_at hl 0 rfl) ?_
  refine lv_iconst (v := 3) hx hb dX0_multiply_63 (by decide) ?_
  refine z_lald hx hb hK hP 0 rfl 3 zx3 (by decide) (v := u 3) rfl dX0_multiply_64 ?_
  refine lv_aload_n hx hb dX0_multiply_65 rfl (lv_at hl 1 rfl) ?_
  refine lv_iconst (v := 2) hx hb dX0_multiply_66 (by decide) ?_
  refine z_lald hx hb hK hP 1 rfl 2 zx2 (by decide) (v := v 2) rfl dX0_multiply_67 ?_
  refine lv_lmul hx hb dX0_multiply_68 ?_
  refine lv_lsub hx hb dX0_multiply_69 ?_
  refine lv_bipush (v := 28) hx hb dX0_multiply_70 (by decide) ?_
  refine lv_lshr (v := sar (((((u 0) * (v 1)) + ((u 1) * (v 0))) + ((u 2) * (v 3))) - ((u 3) * (v 2))) 28) hx hb dX0_multiply_72 rfl ?_
  refine z_last hx hb hK hP hD hS 2 rfl 1 zx1 (by decide) (ws' := [(ha, zaJ k 4 u), (hb2, zaJ k 4 v), (hc, zaJ k 4 (vp_updL (vp_updL f 0 (sar (((((u 0) * (v 0)) - ((u 1) * (v 1))) - ((u 2) * (v 2))) - ((u 3) * (v 3))) 28)) 1 (sar (((((u 0) * (v 1)) + ((u 1) * (v 0))) + ((u 2) * (v 3))) - ((u 3) * (v 2))) 28)))]) rfl dX0_multiply_73 (fun H locs hP hD hS => ?_)
  refine lv_aload_n hx hb dX0_multiply_74 rfl (lv_at hl 2 rfl) ?_
  refine lv_iconst (v := 2) hx hb dX0_multiply_75 (by decide) ?_
  refine lv_aload_n hx hb dX0_multiply_76 rfl (lv_at hl 0 rfl) ?_
  refine lv_iconst (v := 0) hx hb dX0_multiply_77 (by decide) ?_
  refine z_lald hx hb hK hP 0 rfl 0 zx0 (by decide) (v := u 0) rfl dX0_multiply_78 ?_
  refine lv_aload_n hx hb dX0_multiply_79 rfl (lv_at hl 1 rfl) ?_
  refine lv_iconst (v := 2) hx hb dX0_multiply_80 (by decide) ?_
  refine z_lald hx hb hK hP 1 rfl 2 zx2 (by decide) (v := v 2) rfl dX0_multiply_81 ?_
  refine lv_lmul hx hb dX0_multiply_82 ?_
  refine lv_aload_n hx hb dX0_multiply_83 rfl (lv_at hl 0 rfl) ?_
  refine lv_iconst (v := 1) hx hb dX0_multiply_84 (by decide) ?_
  refine z_lald hx hb hK hP 0 rfl 1 zx1 (by decide) (v := u 1) rfl dX0_multiply_85 ?_
  refine lv_aload_n hx hb dX0_multiply_86 rfl (lv_at hl 1 rfl) ?_
  refine lv_iconst (v := 3) hx hb dX0_multiply_87 (by decide) ?_
  refine z_lald hx hb hK hP 1 rfl 3 zx3 (by decide) (v := v 3) rfl dX0_multiply_88 ?_
  refine lv_lmul hx hb dX0_multiply_89 ?_
  refine lv_lsub hx hb dX0_multiply_90 ?_
  refine lv_aload_n hx hb dX0_multiply_91 rfl (lv_at hl 0 rfl) ?_
  refine lv_iconst (v := 2) hx hb dX0_multiply_92 (by decide) ?_
  refine z_lald hx hb hK hP 0 rfl 2 zx2 (by decide) (v := u 2) rfl dX0_multiply_93 ?_
  refine lv_aload_n hx hb dX0_multiply_94 rfl (lv_at hl 1 rfl) ?_
  refine lv_iconst (v := 0) hx hb dX0_multiply_95 (by decide) ?_
  refine z_lald hx hb hK hP 1 rfl 0 zx0 (by decide) (v := v 0) rfl dX0_multiply_96 ?_
  refine lv_lmul hx hb dX0_multiply_97 ?_
  refine lv_ladd hx hb dX0_multiply_98 ?_
  refine lv_aload_n hx hb dX0_multiply_99 rfl (lv_at hl 0 rfl) ?_
  refine lv_iconst (v := 3) hx hb dX0_multiply_100 (by decide) ?_
  refine z_lald hx hb hK hP 0 rfl 3 zx3 (by decide) (v := u 3) rfl dX0_multiply_101 ?_
  refine lv_aload_n hx hb dX0_multiply_102 rfl (lv_at hl 1 rfl) ?_
  refine lv_iconst (v := 1) hx hb dX0_multiply_103 (by decide) ?_
  refine z_lald hx hb hK hP 1 rfl 1 zx1 (by decide) (v := v 1) rfl dX0_multiply_104 ?_
  refine lv_lmul hx hb dX0_multiply_105 ?_
  refine lv_ladd hx hb dX0_multiply_106 ?_
  refine lv_bipush (v := 28) hx hb dX0_multiply_107 (by decide) ?_
  refine lv_lshr (v := sar (((((u 0) * (v 2)) - ((u 1) * (v 3))) + ((u 2) * (v 0))) + ((u 3) * (v 1))) 28) hx hb dX0_multiply_109 rfl ?_
  refine z_last hx hb hK hP hD hS 2 rfl 2 zx2 (by decide) (ws' := [(ha, zaJ k 4 u), (hb2, zaJ k 4 v), (hc, zaJ k 4 (vp_updL (vp_updL (vp_updL f 0 (sar (((((u 0) * (v 0)) - ((u 1) * (v 1))) - ((u 2) * (v 2))) - ((u 3) * (v 3))) 28)) 1 (sar (((((u 0) * (v 1)) + ((u 1) * (v 0))) + ((u 2) * (v 3))) - ((u 3) * (v 2))) 28)) 2 (sar (((((u 0) * (v 2)) - ((u 1) * (v 3))) + ((u 2) * (v 0))) + ((u 3) * (v 1))) 28)))]) rfl dX0_multiply_110 (fun H locs hP hD hS => ?_)
  refine lv_aload_n hx hb dX0_multiply_111 rfl (lv_at hl 2 rfl) ?_
  refine lv_iconst (v := 3) hx hb dX0_multiply_112 (by decide) ?_
  refine lv_aload_n hx hb dX0_multiply_113 rfl (lv_at hl 0 rfl) ?_
  refine lv_iconst (v := 0) hx hb dX0_multiply_114 (by decide) ?_
  refine z_lald hx hb hK hP 0 rfl 0 zx0 (by decide) (v := u 0) rfl dX0_multiply_115 ?_
  refine lv_aload_n hx hb dX0_multiply_116 rfl (lv_at hl 1 rfl) ?_
  refine lv_iconst (v := 3) hx hb dX0_multiply_117 (by decide) ?_
  refine z_lald hx hb hK hP 1 rfl 3 zx3 (by decide) (v := v 3) rfl dX0_multiply_118 ?_
  refine lv_lmul hx hb dX0_multiply_119 ?_
  refine lv_aload_n hx hb dX0_multiply_120 rfl (lv_at hl 0 rfl) ?_
  refine lv_iconst (v := 1) hx hb dX0_multiply_121 (by decide) ?_
  refine z_lald hx hb hK hP 0 rfl 1 zx1 (by decide) (v := u 1) rfl dX0_multiply_122 ?_
  refine lv_aload_n hx hb dX0_multiply_123 rfl (lv_at hl 1 rfl) ?_
  refine lv_iconst (v := 2) hx hb dX0_multiply_124 (by decide) ?_
  refine z_lald hx hb hK hP 1 rfl 2 zx2 (by decide) (v := v 2) rfl dX0_multiply_125 ?_
  refine lv_lmul hx hb dX0_multiply_126 ?_
  refine lv_ladd hx hb dX0_multiply_127 ?_
  refine lv_aload_n hx hb dX0_multiply_128 rfl (lv_at hl 0 rfl) ?_
  refine lv_iconst (v := 2) hx hb dX0_multiply_129 (by decide) ?_
  refine z_lald hx hb hK hP 0 rfl 2 zx2 (by decide) (v := u 2) rfl dX0_multiply_130 ?_
  refine lv_aload_n hx hb dX0_multiply_131 rfl (lv_at hl 1 rfl) ?_
  refine lv_iconst (v := 1) hx hb dX0_multiply_132 (by decide) ?_
  refine z_lald hx hb hK hP 1 rfl 1 zx1 (by decide) (v := v 1) rfl dX0_multiply_133 ?_
  refine lv_lmul hx hb dX0_multiply_134 ?_
  refine lv_lsub hx hb dX0_multiply_135 ?_
  refine lv_aload_n hx hb dX0_multiply_136 rfl (lv_at hl 0 rfl) ?_
  refine lv_iconst (v := 3) hx hb dX0_multiply_137 (by decide) ?_
  refine z_lald hx hb hK hP 0 rfl 3 zx3 (by decide) (v := u 3) rfl dX0_multiply_138 ?_
  refine lv_aload_n hx hb dX0_multiply_139 rfl (lv_at hl 1 rfl) ?_
  refine lv_iconst (v := 0) hx hb dX0_multiply_140 (by decide) ?_
  refine z_lald hx hb hK hP 1 rfl 0 zx0 (by decide) (v := v 0) rfl dX0_multiply_141 ?_
  refine lv_lmul hx hb dX0_multiply_142 ?_
  refine lv_ladd hx hb dX0_multiply_143 ?_
  refine lv_bipush (v := 28) hx hb dX0_multiply_144 (by decide) ?_
  refine lv_lshr (v := sar (((((u 0) * (v 3)) + ((u 1) * (v 2))) - ((u 2) * (v 1))) + ((u 3) * (v 0))) 28) hx hb dX0_multiply_146 rfl ?_
  refine z_last hx hb hK hP hD hS 2 rfl 3 zx3 (by decide) (ws' := [(ha, zaJ k 4 u), (hb2, zaJ k 4 v), (hc, zaJ k 4 (vp_updL (vp_updL (vp_updL (vp_updL f 0 (sar (((((u 0) * (v 0)) - ((u 1) * (v 1))) - ((u 2) * (v 2))) - ((u 3) * (v 3))) 28)) 1 (sar (((((u 0) * (v 1)) + ((u 1) * (v 0))) + ((u 2) * (v 3))) - ((u 3) * (v 2))) 28)) 2 (sar (((((u 0) * (v 2)) - ((u 1) * (v 3))) + ((u 2) * (v 0))) + ((u 3) * (v 1))) 28)) 3 (sar (((((u 0) * (v 3)) + ((u 1) * (v 2))) - ((u 2) * (v 1))) + ((u 3) * (v 0))) 28)))]) rfl dX0_multiply_147 (fun H locs hP hD hS => ?_)
  have hP := z_congJ hP 2 rfl (g := qmul u v) (zall4 (by rfl) (by rfl) (by rfl) (by rfl)) (ws' := [(ha, zaJ k 4 u), (hb2, zaJ k 4 v), (hc, zaJ k 4 (qmul u v))]) rfl
  have hD := z_congDJ hD 2 rfl (g := qmul u v) (ws' := [(ha, zaJ k 4 u), (hb2, zaJ k 4 v), (hc, zaJ k 4 (qmul u v))]) rfl
  have hP9 := hP.sub (ws' := [(ha, zaJ k 4 u), (hb2, zaJ k 4 v), (hc, zaJ k 4 (qmul u v))]) [0, 1, 2] rfl
  have hD9 := hD.sub (ws' := [(ha, zaJ k 4 u), (hb2, zaJ k 4 v), (hc, zaJ k 4 (qmul u v))]) [0, 1, 2] (by decide) rfl
  exact W.vret hx hb hr (fun t9 ht9 hW9 => ⟨⟨[(ha, zaJ k 4 u), (hb2, zaJ k 4 v), (hc, zaJ k 4 (qmul u v))], rfl, rfl, by rw [ht9]; exact hP9, hD9⟩, hS.F ht9⟩) hS.2.2 dX0_multiply_148
set_option maxHeartbeats 4000000 in
set_option maxRecDepth 100000 in
theorem c_X0_makeMatrix (l : Launch) (D : va_G) (k : Nat → ClassId) (sz : Nat) (h ap as1 ai ar am r0 r1 r2 : Nat) (fP fM0 fM1 fM2 : Nat → Int64) : Met l yX0_makeMatrix wsX0_makeMatrix ({ frames := 0, cells := 0, slots := 0, locals := 0 } : Room) (va_Pc [.ref h] (zPre D k [(h, .inr (0, [.ref ap, .ref as1, .ref ai, .ref ar, .ref am])), (ap, zaJ k 4 fP), (am, zaG k 3 (gr3 r0 r1 r2)), (r0, zaJ k 3 fM0), (r1, zaJ k 3 fM1), (r2, zaJ k 3 fM2)] sz zX0)) (zQv D [(h, .inr (0, [.ref ap, .ref as1, .ref ai, .ref ar, .ref am])), (ap, zaJ k 4 fP), (am, zaG k 3 (gr3 r0 r1 r2)), (r0, zaJ k 3 fM0), (r1, zaJ k 3 fM1), (r2, zaJ k 3 fM2)] sz (fun w : va_W => w = [(h, .inr (0, [.ref ap, .ref as1, .ref ai, .ref ar, .ref am])), (ap, zaJ k 4 fP), (am, zaG k 3 (gr3 r0 r1 r2)), (r0, zaJ k 3 (mrow0 fP)), (r1, zaJ k 3 (mrow1 fP)), (r2, zaJ k 3 (mrow2 fP))])) 0 0 (va_A [(h, .inr (0, [.ref ap, .ref as1, .ref ai, .ref ar, .ref am])), (ap, zaJ k 4 fP), (am, zaG k 3 (gr3 r0 r1 r2)), (r0, zaJ k 3 fM0), (r1, zaJ k 3 fM1), (r2, zaJ k 3 fM2)] sz) := by
  refine Met.ofW (cc := cX0_makeMatrix) (maxL := 9) (ret := none) (by decide) rfl ?_
  intro p e s m args below meth c s₁ B hml hv
  obtain ⟨rfl, hsz, hP, hK, hD0, hE⟩ := hv
  have hx := B.exec
  have hb := B.bytes
  have hr := B.returns
  have hts := atoms_spec (ws := wsX0_makeMatrix) B.pre
  have hown : s.vm.findClass RX0 = some m.cls := findClass_of_methodNamed B.named
  have hlocks := B.notSynchronized
  subst hsz
  have hD := hD0.self (sz := s.heap.size)
  delta zQv zB
  generalize hAe : va_A [(h, .inr (0, [.ref ap, .ref as1, .ref ai, .ref ar, .ref am])), (ap, zaJ k 4 fP), (am, zaG k 3 (gr3 r0 r1 r2)), (r0, zaJ k 3 fM0), (r1, zaJ k 3 fM1), (r2, zaJ k 3 fM2)] s.heap.size = A at hD hE ⊢
  have hA : ∀ q : Nat, s.heap.size ≤ q → A q := fun q h => by rw [← hAe]; exact Or.inr h
  have hS : va_S A s.heap s.heap [] := va_S.rf
  have hl := lv_entry [.ref h] (n := 9) (Nat.le_of_ble_eq_true rfl)
  rw [lg_entry_eq]
  generalize (lg_sl [.ref h] ++ List.replicate (9 - (lg_sl [.ref h]).length) Slot.unset).toArray = ls at hl ⊢
  have hl : lv_has ls 9 [(0, .ref h)] := hl
  have hl9 : (Cond.fieldLink RX0 9 "InertialReference$Attitude" "parts" "[J").before #[Value.ref h] s = true := zw hts 1 rfl
  have hinX0 : ∀ w ∈ u_ws RX0 TX0 5, w ∈ wsX0_makeMatrix := fun w h => List.mem_cons_of_mem _ (List.mem_append_right _ h)
  have hl26 : (Cond.fieldLink RX0 26 "InertialReference$Attitude" "matrix" "[[J").before #[Value.ref h] s = true := zw hts 2 rfl
  have hl38 : (Cond.constantLong RX0 38 (268435456)).before #[Value.ref h] s = true := zw hts 3 rfl
  have hl68 : (Cond.constantLong RX0 68 (2)).before #[Value.ref h] s = true := zw hts 4 rfl
  refine lv_aload_n hx hb dX0_makeMatrix_0 rfl (lv_at hl 0 rfl) ?_
  refine va_get (D := D) (ci := 0) (v := .ref ap) (C := RX0) (T := TX0) (N := 5) hx hb hts hinX0 hown hK hP 0 rfl rfl 0 (Nat.le_of_ble_eq_true rfl) hl9 (fun _ h9 => h9) rfl dX0_makeMatrix_1 ?_
  refine lv_iconst (v := 0) hx hb dX0_makeMatrix_4 (by decide) ?_
  refine z_lald hx hb hK hP 1 rfl 0 zx0 (by decide) (v := fP 0) rfl dX0_makeMatrix_5 ?_
  refine lv_lstore_n (lv' := [(1, .long (fP 0)), (0, .ref h)]) hx hb dX0_makeMatrix_6 rfl hl (by decide) rfl (fun ls hl => ?_)
  refine lv_aload_n hx hb dX0_makeMatrix_7 rfl (lv_at hl 1 rfl) ?_
  refine va_get (D := D) (ci := 0) (v := .ref ap) (C := RX0) (T := TX0) (N := 5) hx hb hts hinX0 hown hK hP 0 rfl rfl 0 (Nat.le_of_ble_eq_true rfl) hl9 (fun _ h9 => h9) rfl dX0_makeMatrix_8 ?_
  refine lv_iconst (v := 1) hx hb dX0_makeMatrix_11 (by decide) ?_
  refine z_lald hx hb hK hP 1 rfl 1 zx1 (by decide) (v := fP 1) rfl dX0_makeMatrix_12 ?_
  refine lv_lstore_n (lv' := [(3, .long (fP 1)), (1, .long (fP 0)), (0, .ref h)]) hx hb dX0_makeMatrix_13 rfl hl (by decide) rfl (fun ls hl => ?_)
  refine lv_aload_n hx hb dX0_makeMatrix_14 rfl (lv_at hl 2 rfl) ?_
  refine va_get (D := D) (ci := 0) (v := .ref ap) (C := RX0) (T := TX0) (N := 5) hx hb hts hinX0 hown hK hP 0 rfl rfl 0 (Nat.le_of_ble_eq_true rfl) hl9 (fun _ h9 => h9) rfl dX0_makeMatrix_15 ?_
  refine lv_iconst (v := 2) hx hb dX0_makeMatrix_18 (by decide) ?_
  refine z_lald hx hb hK hP 1 rfl 2 zx2 (by decide) (v := fP 2) rfl dX0_makeMatrix_19 ?_
  refine lv_lstore (lv' := [(5, .long (fP 2)), (3, .long (fP 1)), (1, .long (fP 0)), (0, .ref h)]) hx hb dX0_makeMatrix_20 hl (by decide) rfl (fun ls hl => ?_)
  refine lv_aload_n hx hb dX0_makeMatrix_22 rfl (lv_at hl 3 rfl) ?_
  refine va_get (D := D) (ci := 0) (v := .ref ap) (C := RX0) (T := TX0) (N := 5) hx hb hts hinX0 hown hK hP 0 rfl rfl 0 (Nat.le_of_ble_eq_true rfl) hl9 (fun _ h9 => h9) rfl dX0_makeMatrix_23 ?_
  refine lv_iconst (v := 3) hx hb dX0_makeMatrix_26 (by decide) ?_
  refine z_lald hx hb hK hP 1 rfl 3 zx3 (by decide) (v := fP 3) rfl dX0_makeMatrix_27 ?_
  refine lv_lstore (lv' := [(7, .long (fP 3)), (5, .long (fP 2)), (3, .long (fP 1)), (1, .long (fP 0)), (0, .ref h)]) hx hb dX0_makeMatrix_28 hl (by decide) rfl (fun ls hl => ?_)
  refine lv_aload_n hx hb dX0_makeMatrix_30 rfl (lv_at hl 4 rfl) ?_
  refine va_get (D := D) (ci := 0) (v := .ref am) (C := RX0) (T := TX0) (N := 5) hx hb hts hinX0 hown hK hP 0 rfl rfl 4 (Nat.le_of_ble_eq_true rfl) hl26 (fun _ h9 => h9) rfl dX0_makeMatrix_31 ?_
  refine lv_iconst (v := 0) hx hb dX0_makeMatrix_34 (by decide) ?_
  refine z_gald hx hb hK hP 2 rfl 0 zx0 (by decide) (v := r0) rfl dX0_makeMatrix_35 ?_
  refine lv_iconst (v := 0) hx hb dX0_makeMatrix_36 (by decide) ?_
  refine lv_ldc2 hx hb hown hl38 dX0_makeMatrix_37 ?_
  refine lv_ldc2 hx hb hown hl68 dX0_makeMatrix_40 ?_
  refine lv_lload hx hb dX0_makeMatrix_43 (lv_at hl 1 rfl) ?_
  refine lv_lload hx hb dX0_makeMatrix_45 (lv_at hl 1 rfl) ?_
  refine lv_lmul hx hb dX0_makeMatrix_47 ?_
  refine lv_lload hx hb dX0_makeMatrix_48 (lv_at hl 0 rfl) ?_
  refine lv_lload hx hb dX0_makeMatrix_50 (lv_at hl 0 rfl) ?_
  refine lv_lmul hx hb dX0_makeMatrix_52 ?_
  refine lv_ladd hx hb dX0_makeMatrix_53 ?_
  refine lv_bipush (v := 28) hx hb dX0_makeMatrix_54 (by decide) ?_
  refine lv_lshr (v := sar (((fP 2) * (fP 2)) + ((fP 3) * (fP 3))) 28) hx hb dX0_makeMatrix_56 rfl ?_
  refine lv_lmul hx hb dX0_makeMatrix_57 ?_
  refine lv_lsub hx hb dX0_makeMatrix_58 ?_
  refine z_last hx hb hK hP hD hS 3 rfl 0 zx0 (by decide) (ws' := [(h, .inr (0, [.ref ap, .ref as1, .ref ai, .ref ar, .ref am])), (ap, zaJ k 4 fP), (am, zaG k 3 (gr3 r0 r1 r2)), (r0, zaJ k 3 (vp_updL fM0 0 (268435456 - (2 * (sar (((fP 2) * (fP 2)) + ((fP 3) * (fP 3))) 28))))), (r1, zaJ k 3 fM1), (r2, zaJ k 3 fM2)]) rfl dX0_makeMatrix_59 (fun H locs hP hD hS => ?_)
  refine lv_aload_n hx hb dX0_makeMatrix_60 rfl (lv_at hl 4 rfl) ?_
  refine va_get (D := D) (ci := 0) (v := .ref am) (C := RX0) (T := TX0) (N := 5) hx hb hts hinX0 hown hK hP 0 rfl rfl 4 (Nat.le_of_ble_eq_true rfl) hl26 (fun _ h9 => h9) rfl dX0_makeMatrix_61 ?_
  refine lv_iconst (v := 0) hx hb dX0_makeMatrix_64 (by decide) ?_
  refine z_gald hx hb hK hP 2 rfl 0 zx0 (by decide) (v := r0) rfl dX0_makeMatrix_65 ?_
  refine lv_iconst (v := 1) hx hb dX0_makeMatrix_66 (by decide) ?_
  refine lv_ldc2 hx hb hown hl68 dX0_makeMatrix_67 ?_
  refine lv_lload_n hx hb dX0_makeMatrix_70 rfl (lv_at hl 2 rfl) ?_
  refine lv_lload hx hb dX0_makeMatrix_71 (lv_at hl 1 rfl) ?_
  refine lv_lmul hx hb dX0_makeMatrix_73 ?_
  refine lv_lload_n hx hb dX0_makeMatrix_74 rfl (lv_at hl 3 rfl) ?_
  refine lv_lload hx hb dX0_makeMatrix_75 (lv_at hl 0 rfl) ?_
  refine lv_lmul hx hb dX0_makeMatrix_77 ?_
  refine lv_lsub hx hb dX0_makeMatrix_78 ?_
  refine lv_bipush (v := 28) hx hb dX0_makeMatrix_79 (by decide) ?_
  refine lv_lshr (v := sar (((fP 1) * (fP 2)) - ((fP 0) * (fP 3))) 28) hx hb dX0_makeMatrix_81 rfl ?_
  refine lv_lmul hx hb dX0_makeMatrix_82 ?_
  refine z_last hx hb hK hP hD hS 3 rfl 1 zx1 (by decide) (ws' := [(h, .inr (0, [.ref ap, .ref as1, .ref ai, .ref ar, .ref am])), (ap, zaJ k 4 fP), (am, zaG k 3 (gr3 r0 r1 r2)), (r0, zaJ k 3 (vp_updL (vp_updL fM0 0 (268435456 - (2 * (sar (((fP 2) * (fP 2)) + ((fP 3) * (fP 3))) 28)))) 1 (2 * (sar (((fP 1) * (fP 2)) - ((fP 0) * (fP 3))) 28)))), (r1, zaJ k 3 fM1), (r2, zaJ k 3 fM2)]) rfl dX0_makeMatrix_83 (fun H locs hP hD hS => ?_)
  refine lv_aload_n hx hb dX0_makeMatrix_84 rfl (lv_at hl 4 rfl) ?_
  refine va_get (D := D) (ci := 0) (v := .ref am) (C := RX0) (T := TX0) (N := 5) hx hb hts hinX0 hown hK hP 0 rfl rfl 4 (Nat.le_of_ble_eq_true rfl) hl26 (fun _ h9 => h9) rfl dX0_makeMatrix_85 ?_
  refine lv_iconst (v := 0) hx hb dX0_makeMatrix_88 (by decide) ?_
  refine z_gald hx hb hK hP 2 rfl 0 zx0 (by decide) (v := r0) rfl dX0_makeMatrix_89 ?_
  refine lv_iconst (v := 2) hx hb dX0_makeMatrix_90 (by decide) ?_
  refine lv_ldc2 hx hb hown hl68 dX0_makeMatrix_91 ?_
  refine lv_lload_n hx hb dX0_makeMatrix_94 rfl (lv_at hl 2 rfl) ?_
  refine lv_lload hx hb dX0_makeMatrix_95 (lv_at hl 0 rfl) ?_
  refine lv_lmul hx hb dX0_makeMatrix_97 ?_
  refine lv_lload_n hx hb dX0_makeMatrix_98 rfl (lv_at hl 3 rfl) ?_
  refine lv_lload hx hb dX0_makeMatrix_99 (lv_at hl 1 rfl) ?_
  refine lv_lmul hx hb dX0_makeMatrix_101 ?_
  refine lv_ladd hx hb dX0_makeMatrix_102 ?_
  refine lv_bipush (v := 28) hx hb dX0_makeMatrix_103 (by decide) ?_
  refine lv_lshr (v := sar (((fP 1) * (fP 3)) + ((fP 0) * (fP 2))) 28) hx hb dX0_makeMatrix_105 rfl ?_
  refine lv_lmul hx hb dX0_makeMatrix_106 ?_
  refine z_last hx hb hK hP hD hS 3 rfl 2 zx2 (by decide) (ws' := [(h, .inr (0, [.ref ap, .ref as1, .ref ai, .ref ar, .ref am])), (ap, zaJ k 4 fP), (am, zaG k 3 (gr3 r0 r1 r2)), (r0, zaJ k 3 (vp_updL (vp_updL (vp_updL fM0 0 (268435456 - (2 * (sar (((fP 2) * (fP 2)) + ((fP 3) * (fP 3))) 28)))) 1 (2 * (sar (((fP 1) * (fP 2)) - ((fP 0) * (fP 3))) 28))) 2 (2 * (sar (((fP 1) * (fP 3)) + ((fP 0) * (fP 2))) 28)))), (r1, zaJ k 3 fM1), (r2, zaJ k 3 fM2)]) rfl dX0_makeMatrix_107 (fun H locs hP hD hS => ?_)
  refine lv_aload_n hx hb dX0_makeMatrix_108 rfl (lv_at hl 4 rfl) ?_
  refine va_get (D := D) (ci := 0) (v := .ref am) (C := RX0) (T := TX0) (N := 5) hx hb hts hinX0 hown hK hP 0 rfl rfl 4 (Nat.le_of_ble_eq_true rfl) hl26 (fun _ h9 => h9) rfl dX0_makeMatrix_109 ?_
  refine lv_iconst (v := 1) hx hb dX0_makeMatrix_112 (by decide) ?_
  refine z_gald hx hb hK hP 2 rfl 1 zx1 (by decide) (v := r1) rfl dX0_makeMatrix_113 ?_
  refine lv_iconst (v := 0) hx hb dX0_makeMatrix_114 (by decide) ?_
  refine lv_ldc2 hx hb hown hl68 dX0_makeMatrix_115 ?_
  refine lv_lload_n hx hb dX0_makeMatrix_118 rfl (lv_at hl 2 rfl) ?_
  refine lv_lload hx hb dX0_makeMatrix_119 (lv_at hl 1 rfl) ?_
  refine lv_lmul hx hb dX0_makeMatrix_121 ?_
  refine lv_lload_n hx hb dX0_makeMatrix_122 rfl (lv_at hl 3 rfl) ?_
  refine lv_lload hx hb dX0_makeMatrix_123 (lv_at hl 0 rfl) ?_
  refine lv_lmul hx hb dX0_makeMatrix_125 ?_
  refine lv_ladd hx hb dX0_makeMatrix_126 ?_
  refine lv_bipush (v := 28) hx hb dX0_makeMatrix_127 (by decide) ?_
  refine lv_lshr (v := sar (((fP 1) * (fP 2)) + ((fP 0) * (fP 3))) 28) hx hb dX0_makeMatrix_129 rfl ?_
  refine lv_lmul hx hb dX0_makeMatrix_130 ?_
  refine z_last hx hb hK hP hD hS 4 rfl 0 zx0 (by decide) (ws' := [(h, .inr (0, [.ref ap, .ref as1, .ref ai, .ref ar, .ref am])), (ap, zaJ k 4 fP), (am, zaG k 3 (gr3 r0 r1 r2)), (r0, zaJ k 3 (vp_updL (vp_updL (vp_updL fM0 0 (268435456 - (2 * (sar (((fP 2) * (fP 2)) + ((fP 3) * (fP 3))) 28)))) 1 (2 * (sar (((fP 1) * (fP 2)) - ((fP 0) * (fP 3))) 28))) 2 (2 * (sar (((fP 1) * (fP 3)) + ((fP 0) * (fP 2))) 28)))), (r1, zaJ k 3 (vp_updL fM1 0 (2 * (sar (((fP 1) * (fP 2)) + ((fP 0) * (fP 3))) 28)))), (r2, zaJ k 3 fM2)]) rfl dX0_makeMatrix_131 (fun H locs hP hD hS => ?_)
  refine lv_aload_n hx hb dX0_makeMatrix_132 rfl (lv_at hl 4 rfl) ?_
  refine va_get (D := D) (ci := 0) (v := .ref am) (C := RX0) (T := TX0) (N := 5) hx hb hts hinX0 hown hK hP 0 rfl rfl 4 (Nat.le_of_ble_eq_true rfl) hl26 (fun _ h9 => h9) rfl dX0_makeMatrix_133 ?_
  refine lv_iconst (v := 1) hx hb dX0_makeMatrix_136 (by decide) ?_
  refine z_gald hx hb hK hP 2 rfl 1 zx1 (by decide) (v := r1) rfl dX0_makeMatrix_137 ?_
  refine lv_iconst (v := 1) hx hb dX0_makeMatrix_138 (by decide) ?_
  refine lv_ldc2 hx hb hown hl38 dX0_makeMatrix_139 ?_
  refine lv_ldc2 hx hb hown hl68 dX0_makeMatrix_142 ?_
  refine lv_lload_n hx hb dX0_makeMatrix_145 rfl (lv_at hl 2 rfl) ?_
  refine lv_lload_n hx hb dX0_makeMatrix_146 rfl (lv_at hl 2 rfl) ?_
  refine lv_lmul hx hb dX0_makeMatrix_147 ?_
  refine lv_lload hx hb dX0_makeMatrix_148 (lv_at hl 0 rfl) ?_
  refine lv_lload hx hb dX0_makeMatrix_150 (lv_at hl 0 rfl) ?_
  refine lv_lmul hx hb dX0_makeMatrix_152 ?_
  refine lv_ladd hx hb dX0_makeMatrix_153 ?_
  refine lv_bipush (v := 28) hx hb dX0_makeMatrix_154 (by decide) ?_
  refine lv_lshr (v := sar (((fP 1) * (fP 1)) + ((fP 3) * (fP 3))) 28) hx hb dX0_makeMatrix_156 rfl ?_
  refine lv_lmul hx hb dX0_makeMatrix_157 ?_
  refine lv_lsub hx hb dX0_makeMatrix_158 ?_
  refine z_last hx hb hK hP hD hS 4 rfl 1 zx1 (by decide) (ws' := [(h, .inr (0, [.ref ap, .ref as1, .ref ai, .ref ar, .ref am])), (ap, zaJ k 4 fP), (am, zaG k 3 (gr3 r0 r1 r2)), (r0, zaJ k 3 (vp_updL (vp_updL (vp_updL fM0 0 (268435456 - (2 * (sar (((fP 2) * (fP 2)) + ((fP 3) * (fP 3))) 28)))) 1 (2 * (sar (((fP 1) * (fP 2)) - ((fP 0) * (fP 3))) 28))) 2 (2 * (sar (((fP 1) * (fP 3)) + ((fP 0) * (fP 2))) 28)))), (r1, zaJ k 3 (vp_updL (vp_updL fM1 0 (2 * (sar (((fP 1) * (fP 2)) + ((fP 0) * (fP 3))) 28))) 1 (268435456 - (2 * (sar (((fP 1) * (fP 1)) + ((fP 3) * (fP 3))) 28))))), (r2, zaJ k 3 fM2)]) rfl dX0_makeMatrix_159 (fun H locs hP hD hS => ?_)
  refine lv_aload_n hx hb dX0_makeMatrix_160 rfl (lv_at hl 4 rfl) ?_
  refine va_get (D := D) (ci := 0) (v := .ref am) (C := RX0) (T := TX0) (N := 5) hx hb hts hinX0 hown hK hP 0 rfl rfl 4 (Nat.le_of_ble_eq_true rfl) hl26 (fun _ h9 => h9) rfl dX0_makeMatrix_161 ?_
  refine lv_iconst (v := 1) hx hb dX0_makeMatrix_164 (by decide) ?_
  refine z_gald hx hb hK hP 2 rfl 1 zx1 (by decide) (v := r1) rfl dX0_makeMatrix_165 ?_
  refine lv_iconst (v := 2) hx hb dX0_makeMatrix_166 (by decide) ?_
  refine lv_ldc2 hx hb hown hl68 dX0_makeMatrix_167 ?_
  refine lv_lload hx hb dX0_makeMatrix_170 (lv_at hl 1 rfl) ?_
  refine lv_lload hx hb dX0_makeMatrix_172 (lv_at hl 0 rfl) ?_
  refine lv_lmul hx hb dX0_makeMatrix_174 ?_
  refine lv_lload_n hx hb dX0_makeMatrix_175 rfl (lv_at hl 3 rfl) ?_
  refine lv_lload_n hx hb dX0_makeMatrix_176 rfl (lv_at hl 2 rfl) ?_
  refine lv_lmul hx hb dX0_makeMatrix_177 ?_
  refine lv_lsub hx hb dX0_makeMatrix_178 ?_
  refine lv_bipush (v := 28) hx hb dX0_makeMatrix_179 (by decide) ?_
  refine lv_lshr (v := sar (((fP 2) * (fP 3)) - ((fP 0) * (fP 1))) 28) hx hb dX0_makeMatrix_181 rfl ?_
  refine lv_lmul hx hb dX0_makeMatrix_182 ?_
  refine z_last hx hb hK hP hD hS 4 rfl 2 zx2 (by decide) (ws' := [(h, .inr (0, [.ref ap, .ref as1, .ref ai, .ref ar, .ref am])), (ap, zaJ k 4 fP), (am, zaG k 3 (gr3 r0 r1 r2)), (r0, zaJ k 3 (vp_updL (vp_updL (vp_updL fM0 0 (268435456 - (2 * (sar (((fP 2) * (fP 2)) + ((fP 3) * (fP 3))) 28)))) 1 (2 * (sar (((fP 1) * (fP 2)) - ((fP 0) * (fP 3))) 28))) 2 (2 * (sar (((fP 1) * (fP 3)) + ((fP 0) * (fP 2))) 28)))), (r1, zaJ k 3 (vp_updL (vp_updL (vp_updL fM1 0 (2 * (sar (((fP 1) * (fP 2)) + ((fP 0) * (fP 3))) 28))) 1 (268435456 - (2 * (sar (((fP 1) * (fP 1)) + ((fP 3) * (fP 3))) 28)))) 2 (2 * (sar (((fP 2) * (fP 3)) - ((fP 0) * (fP 1))) 28)))), (r2, zaJ k 3 fM2)]) rfl dX0_makeMatrix_183 (fun H locs hP hD hS => ?_)
  refine lv_aload_n hx hb dX0_makeMatrix_184 rfl (lv_at hl 4 rfl) ?_
  refine va_get (D := D) (ci := 0) (v := .ref am) (C := RX0) (T := TX0) (N := 5) hx hb hts hinX0 hown hK hP 0 rfl rfl 4 (Nat.le_of_ble_eq_true rfl) hl26 (fun _ h9 => h9) rfl dX0_makeMatrix_185 ?_
  refine lv_iconst (v := 2) hx hb dX0_makeMatrix_188 (by decide) ?_
  refine z_gald hx hb hK hP 2 rfl 2 zx2 (by decide) (v := r2) rfl dX0_makeMatrix_189 ?_
  refine lv_iconst (v := 0) hx hb dX0_makeMatrix_190 (by decide) ?_
  refine lv_ldc2 hx hb hown hl68 dX0_makeMatrix_191 ?_
  refine lv_lload_n hx hb dX0_makeMatrix_194 rfl (lv_at hl 2 rfl) ?_
  refine lv_lload hx hb dX0_makeMatrix_195 (lv_at hl 0 rfl) ?_
  refine lv_lmul hx hb dX0_makeMatrix_197 ?_
  refine lv_lload_n hx hb dX0_makeMatrix_198 rfl (lv_at hl 3 rfl) ?_
  refine lv_lload hx hb dX0_makeMatrix_199 (lv_at hl 1 rfl) ?_
  refine lv_lmul hx hb dX0_makeMatrix_201 ?_
  refine lv_lsub hx hb dX0_makeMatrix_202 ?_
  refine lv_bipush (v := 28) hx hb dX0_makeMatrix_203 (by decide) ?_
  refine lv_lshr (v := sar (((fP 1) * (fP 3)) - ((fP 0) * (fP 2))) 28) hx hb dX0_makeMatrix_205 rfl ?_
  refine lv_lmul hx hb dX0_makeMatrix_206 ?_
  refine z_last hx hb hK hP hD hS 5 rfl 0 zx0 (by decide) (ws' := [(h, .inr (0, [.ref ap, .ref as1, .ref ai, .ref ar, .ref am])), (ap, zaJ k 4 fP), (am, zaG k 3 (gr3 r0 r1 r2)), (r0, zaJ k 3 (vp_updL (vp_updL (vp_updL fM0 0 (268435456 - (2 * (sar (((fP 2) * (fP 2)) + ((fP 3) * (fP 3))) 28)))) 1 (2 * (sar (((fP 1) * (fP 2)) - ((fP 0) * (fP 3))) 28))) 2 (2 * (sar (((fP 1) * (fP 3)) + ((fP 0) * (fP 2))) 28)))), (r1, zaJ k 3 (vp_updL (vp_updL (vp_updL fM1 0 (2 * (sar (((fP 1) * (fP 2)) + ((fP 0) * (fP 3))) 28))) 1 (268435456 - (2 * (sar (((fP 1) * (fP 1)) + ((fP 3) * (fP 3))) 28)))) 2 (2 * (sar (((fP 2) * (fP 3)) - ((fP 0) * (fP 1))) 28)))), (r2, zaJ k 3 (vp_updL fM2 0 (2 * (sar (((fP 1) * (fP 3)) - ((fP 0) * (fP 2))) 28))))]) rfl dX0_makeMatrix_207 (fun H locs hP hD hS => ?_)
  refine lv_aload_n hx hb dX0_makeMatrix_208 rfl (lv_at hl 4 rfl) ?_
  refine va_get (D := D) (ci := 0) (v := .ref am) (C := RX0) (T := TX0) (N := 5) hx hb hts hinX0 hown hK hP 0 rfl rfl 4 (Nat.le_of_ble_eq_true rfl) hl26 (fun _ h9 => h9) rfl dX0_makeMatrix_209 ?_
  refine lv_iconst (v := 2) hx hb dX0_makeMatrix_212 (by decide) ?_
  refine z_gald hx hb hK hP 2 rfl 2 zx2 (by decide) (v := r2) rfl dX0_makeMatrix_213 ?_
  refine lv_iconst (v := 1) hx hb dX0_makeMatrix_214 (by decide) ?_
  refine lv_ldc2 hx hb hown hl68 dX0_makeMatrix_215 ?_
  refine lv_lload hx hb dX0_makeMatrix_218 (lv_at hl 1 rfl) ?_
  refine lv_lload hx hb dX0_makeMatrix_220 (lv_at hl 0 rfl) ?_
  refine lv_lmul hx hb dX0_makeMatrix_222 ?_
  refine lv_lload_n hx hb dX0_makeMatrix_223 rfl (lv_at hl 3 rfl) ?_
  refine lv_lload_n hx hb dX0_makeMatrix_224 rfl (lv_at hl 2 rfl) ?_
  refine lv_lmul hx hb dX0_makeMatrix_225 ?_
  refine lv_ladd hx hb dX0_makeMatrix_226 ?_
  refine lv_bipush (v := 28) hx hb dX0_makeMatrix_227 (by decide) ?_
  refine lv_lshr (v := sar (((fP 2) * (fP 3)) + ((fP 0) * (fP 1))) 28) hx hb dX0_makeMatrix_229 rfl ?_
  refine lv_lmul hx hb dX0_makeMatrix_230 ?_
  refine z_last hx hb hK hP hD hS 5 rfl 1 zx1 (by decide) (ws' := [(h, .inr (0, [.ref ap, .ref as1, .ref ai, .ref ar, .ref am])), (ap, zaJ k 4 fP), (am, zaG k 3 (gr3 r0 r1 r2)), (r0, zaJ k 3 (vp_updL (vp_updL (vp_updL fM0 0 (268435456 - (2 * (sar (((fP 2) * (fP 2)) + ((fP 3) * (fP 3))) 28)))) 1 (2 * (sar (((fP 1) * (fP 2)) - ((fP 0) * (fP 3))) 28))) 2 (2 * (sar (((fP 1) * (fP 3)) + ((fP 0) * (fP 2))) 28)))), (r1, zaJ k 3 (vp_updL (vp_updL (vp_updL fM1 0 (2 * (sar (((fP 1) * (fP 2)) + ((fP 0) * (fP 3))) 28))) 1 (268435456 - (2 * (sar (((fP 1) * (fP 1)) + ((fP 3) * (fP 3))) 28)))) 2 (2 * (sar (((fP 2) * (fP 3)) - ((fP 0) * (fP 1))) 28)))), (r2, zaJ k 3 (vp_updL (vp_updL fM2 0 (2 * (sar (((fP 1) * (fP 3)) - ((fP 0) * (fP 2))) 28))) 1 (2 * (sar (((fP 2) * (fP 3)) + ((fP 0) * (fP 1))) 28))))]) rfl dX0_makeMatrix_231 (fun H locs hP hD hS => ?_)
  refine lv_aload_n hx hb dX0_makeMatrix_232 rfl (lv_at hl 4 rfl) ?_
  refine va_get (D := D) (ci := 0) (v := .ref am) (C := RX0) (T := TX0) (N := 5) hx hb hts hinX0 hown hK hP 0 rfl rfl 4 (Nat.le_of_ble_eq_true rfl) hl26 (fun _ h9 => h9) rfl dX0_makeMatrix_233 ?_
  refine lv_iconst (v := 2) hx hb dX0_makeMatrix_236 (by decide) ?_
  refine z_gald hx hb hK hP 2 rfl 2 zx2 (by decide) (v := r2) rfl dX0_makeMatrix_237 ?_
  refine lv_iconst (v := 2) hx hb dX0_makeMatrix_238 (by decide) ?_
  refine lv_ldc2 hx hb hown hl38 dX0_makeMatrix_239 ?_
  refine lv_ldc2 hx hb hown hl68 dX0_makeMatrix_242 ?_
  refine lv_lload_n hx hb dX0_makeMatrix_245 rfl (lv_at hl 2 rfl) ?_
  refine lv_lload_n hx hb dX0_makeMatrix_246 rfl (lv_at hl 2 rfl) ?_
  refine lv_lmul hx hb dX0_makeMatrix_247 ?_
  refine lv_lload hx hb dX0_makeMatrix_248 (lv_at hl 1 rfl) ?_
  refine lv_lload hx hb dX0_makeMatrix_250 (lv_at hl 1 rfl) ?_
  refine lv_lmul hx hb dX0_makeMatrix_252 ?_
  refine lv_ladd hx hb dX0_makeMatrix_253 ?_
  refine lv_bipush (v := 28) hx hb dX0_makeMatrix_254 (by decide) ?_
  refine lv_lshr (v := sar (((fP 1) * (fP 1)) + ((fP 2) * (fP 2))) 28) hx hb dX0_makeMatrix_256 rfl ?_
  refine lv_lmul hx hb dX0_makeMatrix_257 ?_
  refine lv_lsub hx hb dX0_makeMatrix_258 ?_
  refine z_last hx hb hK hP hD hS 5 rfl 2 zx2 (by decide) (ws' := [(h, .inr (0, [.ref ap, .ref as1, .ref ai, .ref ar, .ref am])), (ap, zaJ k 4 fP), (am, zaG k 3 (gr3 r0 r1 r2)), (r0, zaJ k 3 (vp_updL (vp_updL (vp_updL fM0 0 (268435456 - (2 * (sar (((fP 2) * (fP 2)) + ((fP 3) * (fP 3))) 28)))) 1 (2 * (sar (((fP 1) * (fP 2)) - ((fP 0) * (fP 3))) 28))) 2 (2 * (sar (((fP 1) * (fP 3)) + ((fP 0) * (fP 2))) 28)))), (r1, zaJ k 3 (vp_updL (vp_updL (vp_updL fM1 0 (2 * (sar (((fP 1) * (fP 2)) + ((fP 0) * (fP 3))) 28))) 1 (268435456 - (2 * (sar (((fP 1) * (fP 1)) + ((fP 3) * (fP 3))) 28)))) 2 (2 * (sar (((fP 2) * (fP 3)) - ((fP 0) * (fP 1))) 28)))), (r2, zaJ k 3 (vp_updL (vp_updL (vp_updL fM2 0 (2 * (sar (((fP 1) * (fP 3)) - ((fP 0) * (fP 2))) 28))) 1 (2 * (sar (((fP 2) * (fP 3)) + ((fP 0) * (fP 1))) 28))) 2 (268435456 - (2 * (sar (((fP 1) * (fP 1)) + ((fP 2) * (fP 2))) 28)))))]) rfl dX0_makeMatrix_259 (fun H locs hP hD hS => ?_)
  have hP := z_congJ hP 3 rfl (g := mrow0 fP) (zall3 (by rfl) (by rfl) (by rfl)) (ws' := [(h, .inr (0, [.ref ap, .ref as1, .ref ai, .ref ar, .ref am])), (ap, zaJ k 4 fP), (am, zaG k 3 (gr3 r0 r1 r2)), (r0, zaJ k 3 (mrow0 fP)), (r1, zaJ k 3 (vp_updL (vp_updL (vp_updL fM1 0 (2 * (sar (((fP 1) * (fP 2)) + ((fP 0) * (fP 3))) 28))) 1 (268435456 - (2 * (sar (((fP 1) * (fP 1)) + ((fP 3) * (fP 3))) 28)))) 2 (2 * (sar (((fP 2) * (fP 3)) - ((fP 0) * (fP 1))) 28)))), (r2, zaJ k 3 (vp_updL (vp_updL (vp_updL fM2 0 (2 * (sar (((fP 1) * (fP 3)) - ((fP 0) * (fP 2))) 28))) 1 (2 * (sar (((fP 2) * (fP 3)) + ((fP 0) * (fP 1))) 28))) 2 (268435456 - (2 * (sar (((fP 1) * (fP 1)) + ((fP 2) * (fP 2))) 28)))))]) rfl
  have hD := z_congDJ hD 3 rfl (g := mrow0 fP) (ws' := [(h, .inr (0, [.ref ap, .ref as1, .ref ai, .ref ar, .ref am])), (ap, zaJ k 4 fP), (am, zaG k 3 (gr3 r0 r1 r2)), (r0, zaJ k 3 (mrow0 fP)), (r1, zaJ k 3 (vp_updL (vp_updL (vp_updL fM1 0 (2 * (sar (((fP 1) * (fP 2)) + ((fP 0) * (fP 3))) 28))) 1 (268435456 - (2 * (sar (((fP 1) * (fP 1)) + ((fP 3) * (fP 3))) 28)))) 2 (2 * (sar (((fP 2) * (fP 3)) - ((fP 0) * (fP 1))) 28)))), (r2, zaJ k 3 (vp_updL (vp_updL (vp_updL fM2 0 (2 * (sar (((fP 1) * (fP 3)) - ((fP 0) * (fP 2))) 28))) 1 (2 * (sar (((fP 2) * (fP 3)) + ((fP 0) * (fP 1))) 28))) 2 (268435456 - (2 * (sar (((fP 1) * (fP 1)) + ((fP 2) * (fP 2))) 28)))))]) rfl
  have hP := z_congJ hP 4 rfl (g := mrow1 fP) (zall3 (by rfl) (by rfl) (by rfl)) (ws' := [(h, .inr (0, [.ref ap, .ref as1, .ref ai, .ref ar, .ref am])), (ap, zaJ k 4 fP), (am, zaG k 3 (gr3 r0 r1 r2)), (r0, zaJ k 3 (mrow0 fP)), (r1, zaJ k 3 (mrow1 fP)), (r2, zaJ k 3 (vp_updL (vp_updL (vp_updL fM2 0 (2 * (sar (((fP 1) * (fP 3)) - ((fP 0) * (fP 2))) 28))) 1 (2 * (sar (((fP 2) * (fP 3)) + ((fP 0) * (fP 1))) 28))) 2 (268435456 - (2 * (sar (((fP 1) * (fP 1)) + ((fP 2) * (fP 2))) 28)))))]) rfl
  have hD := z_congDJ hD 4 rfl (g := mrow1 fP) (ws' := [(h, .inr (0, [.ref ap, .ref as1, .ref ai, .ref ar, .ref am])), (ap, zaJ k 4 fP), (am, zaG k 3 (gr3 r0 r1 r2)), (r0, zaJ k 3 (mrow0 fP)), (r1, zaJ k 3 (mrow1 fP)), (r2, zaJ k 3 (vp_updL (vp_updL (vp_updL fM2 0 (2 * (sar (((fP 1) * (fP 3)) - ((fP 0) * (fP 2))) 28))) 1 (2 * (sar (((fP 2) * (fP 3)) + ((fP 0) * (fP 1))) 28))) 2 (268435456 - (2 * (sar (((fP 1) * (fP 1)) + ((fP 2) * (fP 2))) 28)))))]) rfl
  have hP := z_congJ hP 5 rfl (g := mrow2 fP) (zall3 (by rfl) (by rfl) (by rfl)) (ws' := [(h, .inr (0, [.ref ap, .ref as1, .ref ai, .ref ar, .ref am])), (ap, zaJ k 4 fP), (am, zaG k 3 (gr3 r0 r1 r2)), (r0, zaJ k 3 (mrow0 fP)), (r1, zaJ k 3 (mrow1 fP)), (r2, zaJ k 3 (mrow2 fP))]) rfl
  have hD := z_congDJ hD 5 rfl (g := mrow2 fP) (ws' := [(h, .inr (0, [.ref ap, .ref as1, .ref ai, .ref ar, .ref am])), (ap, zaJ k 4 fP), (am, zaG k 3 (gr3 r0 r1 r2)), (r0, zaJ k 3 (mrow0 fP)), (r1, zaJ k 3 (mrow1 fP)), (r2, zaJ k 3 (mrow2 fP))]) rfl
  have hP9 := hP.sub (ws' := [(h, .inr (0, [.ref ap, .ref as1, .ref ai, .ref ar, .ref am])), (ap, zaJ k 4 fP), (am, zaG k 3 (gr3 r0 r1 r2)), (r0, zaJ k 3 (mrow0 fP)), (r1, zaJ k 3 (mrow1 fP)), (r2, zaJ k 3 (mrow2 fP))]) [0, 1, 2, 3, 4, 5] rfl
  have hD9 := hD.sub (ws' := [(h, .inr (0, [.ref ap, .ref as1, .ref ai, .ref ar, .ref am])), (ap, zaJ k 4 fP), (am, zaG k 3 (gr3 r0 r1 r2)), (r0, zaJ k 3 (mrow0 fP)), (r1, zaJ k 3 (mrow1 fP)), (r2, zaJ k 3 (mrow2 fP))]) [0, 1, 2, 3, 4, 5] (by decide) rfl
  exact W.vret hx hb hr (fun t9 ht9 hW9 => ⟨⟨[(h, .inr (0, [.ref ap, .ref as1, .ref ai, .ref ar, .ref am])), (ap, zaJ k 4 fP), (am, zaG k 3 (gr3 r0 r1 r2)), (r0, zaJ k 3 (mrow0 fP)), (r1, zaJ k 3 (mrow1 fP)), (r2, zaJ k 3 (mrow2 fP))], rfl, rfl, by rw [ht9]; exact hP9, hD9⟩, hS.F ht9⟩) hS.2.2 dX0_makeMatrix_260
set_option maxHeartbeats 4000000 in
set_option maxRecDepth 100000 in
theorem c_X0_normalizeProduct (l : Launch) (D : va_G) (k : Nat → ClassId) (sz : Nat) (h ap as1 ai ar am : Nat) (fP fR : Nat → Int64) : Met l yX0_normalizeProduct wsX0_normalizeProduct ({ frames := 0, cells := 0, slots := 0, locals := 0 } : Room) (va_Pc [.ref h] (zPre D k [(h, .inr (0, [.ref ap, .ref as1, .ref ai, .ref ar, .ref am])), (ap, zaJ k 4 fP), (ar, zaJ k 4 fR)] sz zX0)) (zQv D [(h, .inr (0, [.ref ap, .ref as1, .ref ai, .ref ar, .ref am])), (ap, zaJ k 4 fP), (ar, zaJ k 4 fR)] sz (fun w : va_W => w = [(h, .inr (0, [.ref ap, .ref as1, .ref ai, .ref ar, .ref am])), (ap, zaJ k 4 (qnorm fR)), (ar, zaJ k 4 fR)])) 0 0 (va_A [(h, .inr (0, [.ref ap, .ref as1, .ref ai, .ref ar, .ref am])), (ap, zaJ k 4 fP), (ar, zaJ k 4 fR)] sz) := by
  refine Met.ofW (cc := cX0_normalizeProduct) (maxL := 6) (ret := none) (by decide) rfl ?_
  intro p e s m args below meth c s₁ B hml hv
  obtain ⟨rfl, hsz, hP, hK, hD0, hE⟩ := hv
  have hx := B.exec
  have hb := B.bytes
  have hr := B.returns
  have hts := atoms_spec (ws := wsX0_normalizeProduct) B.pre
  have hown : s.vm.findClass RX0 = some m.cls := findClass_of_methodNamed B.named
  have hlocks := B.notSynchronized
  subst hsz
  have hD := hD0.self (sz := s.heap.size)
  delta zQv zB
  generalize hAe : va_A [(h, .inr (0, [.ref ap, .ref as1, .ref ai, .ref ar, .ref am])), (ap, zaJ k 4 fP), (ar, zaJ k 4 fR)] s.heap.size = A at hD hE ⊢
  have hA : ∀ q : Nat, s.heap.size ≤ q → A q := fun q h => by rw [← hAe]; exact Or.inr h
  have hS : va_S A s.heap s.heap [] := va_S.rf
  have hl := lv_entry [.ref h] (n := 6) (Nat.le_of_ble_eq_true rfl)
  rw [lg_entry_eq]
  generalize (lg_sl [.ref h] ++ List.replicate (6 - (lg_sl [.ref h]).length) Slot.unset).toArray = ls at hl ⊢
  have hl : lv_has ls 6 [(0, .ref h)] := hl
  have hl21 : (Cond.fieldLink RX0 21 "InertialReference$Attitude" "product" "[J").before #[Value.ref h] s = true := zw hts 1 rfl
  have hinX0 : ∀ w ∈ u_ws RX0 TX0 5, w ∈ wsX0_normalizeProduct := fun w h => List.mem_cons_of_mem _ (List.mem_append_right _ h)
  have hl38 : (Cond.constantLong RX0 38 (268435456)).before #[Value.ref h] s = true := zw hts 2 rfl
  have hl9 : (Cond.fieldLink RX0 9 "InertialReference$Attitude" "parts" "[J").before #[Value.ref h] s = true := zw hts 3 rfl
  refine lv_lconst (v := 0) hx hb dX0_normalizeProduct_0 (by decide) ?_
  refine lv_lstore_n (lv' := [(1, .long 0), (0, .ref h)]) hx hb dX0_normalizeProduct_1 rfl hl (by decide) rfl (fun ls hl => ?_)
  refine lv_iconst (v := 0) hx hb dX0_normalizeProduct_2 (by decide) ?_
  refine lv_istore_n (lv' := [(3, .int 0), (1, .long 0), (0, .ref h)]) hx hb dX0_normalizeProduct_3 rfl hl (by decide) rfl (fun ls hl => ?_)
  refine lv_iload_n hx hb dX0_normalizeProduct_4 rfl (lv_at hl 0 rfl) ?_
  refine lv_iconst (v := 4) hx hb dX0_normalizeProduct_5 (by decide) ?_
  refine lv_icmp_ge (tgt := 31) hx hb dX0_normalizeProduct_6 (by decide) (fun c => absurd c (by decide)) (fun _ => ?_)
  refine lv_lload_n hx hb dX0_normalizeProduct_9 rfl (lv_at hl 1 rfl) ?_
  refine lv_aload_n hx hb dX0_normalizeProduct_10 rfl (lv_at hl 2 rfl) ?_
  refine va_get (D := D) (ci := 0) (v := .ref ar) (C := RX0) (T := TX0) (N := 5) hx hb hts hinX0 hown hK hP 0 rfl rfl 3 (Nat.le_of_ble_eq_true rfl) hl21 (fun _ h9 => h9) rfl dX0_normalizeProduct_11 ?_
  refine lv_iload_n hx hb dX0_normalizeProduct_14 rfl (lv_at hl 0 rfl) ?_
  refine z_lald hx hb hK hP 2 rfl 0 zx0 (by decide) (v := fR 0) rfl dX0_normalizeProduct_15 ?_
  refine lv_aload_n hx hb dX0_normalizeProduct_16 rfl (lv_at hl 2 rfl) ?_
  refine va_get (D := D) (ci := 0) (v := .ref ar) (C := RX0) (T := TX0) (N := 5) hx hb hts hinX0 hown hK hP 0 rfl rfl 3 (Nat.le_of_ble_eq_true rfl) hl21 (fun _ h9 => h9) rfl dX0_normalizeProduct_17 ?_
  refine lv_iload_n hx hb dX0_normalizeProduct_20 rfl (lv_at hl 0 rfl) ?_
  refine z_lald hx hb hK hP 2 rfl 0 zx0 (by decide) (v := fR 0) rfl dX0_normalizeProduct_21 ?_
  refine lv_lmul hx hb dX0_normalizeProduct_22 ?_
  refine lv_ladd hx hb dX0_normalizeProduct_23 ?_
  refine lv_lstore_n (lv' := [(1, .long (0 + ((fR 0) * (fR 0)))), (3, .int 0), (0, .ref h)]) hx hb dX0_normalizeProduct_24 rfl hl (by decide) rfl (fun ls hl => ?_)
  refine lv_iinc (v := 1) (lv' := [(3, .int 1), (1, .long (0 + ((fR 0) * (fR 0)))), (0, .ref h)]) hx hb dX0_normalizeProduct_25 hl (k := 1) rfl (by decide) (by decide) rfl (fun ls hl => ?_)
  refine lv_goto (tgt := 4) hx hb dX0_normalizeProduct_28 (by decide) ?_
  refine lv_iload_n hx hb dX0_normalizeProduct_4 rfl (lv_at hl 0 rfl) ?_
  refine lv_iconst (v := 4) hx hb dX0_normalizeProduct_5 (by decide) ?_
  refine lv_icmp_ge (tgt := 31) hx hb dX0_normalizeProduct_6 (by decide) (fun c => absurd c (by decide)) (fun _ => ?_)
  refine lv_lload_n hx hb dX0_normalizeProduct_9 rfl (lv_at hl 1 rfl) ?_
  refine lv_aload_n hx hb dX0_normalizeProduct_10 rfl (lv_at hl 2 rfl) ?_
  refine va_get (D := D) (ci := 0) (v := .ref ar) (C := RX0) (T := TX0) (N := 5) hx hb hts hinX0 hown hK hP 0 rfl rfl 3 (Nat.le_of_ble_eq_true rfl) hl21 (fun _ h9 => h9) rfl dX0_normalizeProduct_11 ?_
  refine lv_iload_n hx hb dX0_normalizeProduct_14 rfl (lv_at hl 0 rfl) ?_
  refine z_lald hx hb hK hP 2 rfl 1 zx1 (by decide) (v := fR 1) rfl dX0_normalizeProduct_15 ?_
  refine lv_aload_n hx hb dX0_normalizeProduct_16 rfl (lv_at hl 2 rfl) ?_
  refine va_get (D := D) (ci := 0) (v := .ref ar) (C := RX0) (T := TX0) (N := 5) hx hb hts hinX0 hown hK hP 0 rfl rfl 3 (Nat.le_of_ble_eq_true rfl) hl21 (fun _ h9 => h9) rfl dX0_normalizeProduct_17 ?_
  refine lv_iload_n hx hb dX0_normalizeProduct_20 rfl (lv_at hl 0 rfl) ?_
  refine z_lald hx hb hK hP 2 rfl 1 zx1 (by decide) (v := fR 1) rfl dX0_normalizeProduct_21 ?_
  refine lv_lmul hx hb dX0_normalizeProduct_22 ?_
  refine lv_ladd hx hb dX0_normalizeProduct_23 ?_
  refine lv_lstore_n (lv' := [(1, .long ((0 + ((fR 0) * (fR 0))) + ((fR 1) * (fR 1)))), (3, .int 1), (0, .ref h)]) hx hb dX0_normalizeProduct_24 rfl hl (by decide) rfl (fun ls hl => ?_)
  refine lv_iinc (v := 2) (lv' := [(3, .int 2), (1, .long ((0 + ((fR 0) * (fR 0))) + ((fR 1) * (fR 1)))), (0, .ref h)]) hx hb dX0_normalizeProduct_25 hl (k := 1) rfl (by decide) (by decide) rfl (fun ls hl => ?_)
  refine lv_goto (tgt := 4) hx hb dX0_normalizeProduct_28 (by decide) ?_
  refine lv_iload_n hx hb dX0_normalizeProduct_4 rfl (lv_at hl 0 rfl) ?_
  refine lv_iconst (v := 4) hx hb dX0_normalizeProduct_5 (by decide) ?_
  refine lv_icmp_ge (tgt := 31) hx hb dX0_normalizeProduct_6 (by decide) (fun c => absurd c (by decide)) (fun _ => ?_)
  refine lv_lload_n hx hb dX0_normalizeProduct_9 rfl (lv_at hl 1 rfl) ?_
  refine lv_aload_n hx hb dX0_normalizeProduct_10 rfl (lv_at hl 2 rfl) ?_
  refine va_get (D := D) (ci := 0) (v := .ref ar) (C := RX0) (T := TX0) (N := 5) hx hb hts hinX0 hown hK hP 0 rfl rfl 3 (Nat.le_of_ble_eq_true rfl) hl21 (fun _ h9 => h9) rfl dX0_normalizeProduct_11 ?_
  refine lv_iload_n hx hb dX0_normalizeProduct_14 rfl (lv_at hl 0 rfl) ?_
  refine z_lald hx hb hK hP 2 rfl 2 zx2 (by decide) (v := fR 2) rfl dX0_normalizeProduct_15 ?_
  refine lv_aload_n hx hb dX0_normalizeProduct_16 rfl (lv_at hl 2 rfl) ?_
  refine va_get (D := D) (ci := 0) (v := .ref ar) (C := RX0) (T := TX0) (N := 5) hx hb hts hinX0 hown hK hP 0 rfl rfl 3 (Nat.le_of_ble_eq_true rfl) hl21 (fun _ h9 => h9) rfl dX0_normalizeProduct_17 ?_
  refine lv_iload_n hx hb dX0_normalizeProduct_20 rfl (lv_at hl 0 rfl) ?_
  refine z_lald hx hb hK hP 2 rfl 2 zx2 (by decide) (v := fR 2) rfl dX0_normalizeProduct_21 ?_
  refine lv_lmul hx hb dX0_normalizeProduct_22 ?_
  refine lv_ladd hx hb dX0_normalizeProduct_23 ?_
  refine lv_lstore_n (lv' := [(1, .long (((0 + ((fR 0) * (fR 0))) + ((fR 1) * (fR 1))) + ((fR 2) * (fR 2)))), (3, .int 2), (0, .ref h)]) hx hb dX0_normalizeProduct_24 rfl hl (by decide) rfl (fun ls hl => ?_)
  refine lv_iinc (v := 3) (lv' := [(3, .int 3), (1, .long (((0 + ((fR 0) * (fR 0))) + ((fR 1) * (fR 1))) + ((fR 2) * (fR 2)))), (0, .ref h)]) hx hb dX0_normalizeProduct_25 hl (k := 1) rfl (by decide) (by decide) rfl (fun ls hl => ?_)
  refine lv_goto (tgt := 4) hx hb dX0_normalizeProduct_28 (by decide) ?_
  refine lv_iload_n hx hb dX0_normalizeProduct_4 rfl (lv_at hl 0 rfl) ?_
  refine lv_iconst (v := 4) hx hb dX0_normalizeProduct_5 (by decide) ?_
  refine lv_icmp_ge (tgt := 31) hx hb dX0_normalizeProduct_6 (by decide) (fun c => absurd c (by decide)) (fun _ => ?_)
  refine lv_lload_n hx hb dX0_normalizeProduct_9 rfl (lv_at hl 1 rfl) ?_
  refine lv_aload_n hx hb dX0_normalizeProduct_10 rfl (lv_at hl 2 rfl) ?_
  refine va_get (D := D) (ci := 0) (v := .ref ar) (C := RX0) (T := TX0) (N := 5) hx hb hts hinX0 hown hK hP 0 rfl rfl 3 (Nat.le_of_ble_eq_true rfl) hl21 (fun _ h9 => h9) rfl dX0_normalizeProduct_11 ?_
  refine lv_iload_n hx hb dX0_normalizeProduct_14 rfl (lv_at hl 0 rfl) ?_
  refine z_lald hx hb hK hP 2 rfl 3 zx3 (by decide) (v := fR 3) rfl dX0_normalizeProduct_15 ?_
  refine lv_aload_n hx hb dX0_normalizeProduct_16 rfl (lv_at hl 2 rfl) ?_
  refine va_get (D := D) (ci := 0) (v := .ref ar) (C := RX0) (T := TX0) (N := 5) hx hb hts hinX0 hown hK hP 0 rfl rfl 3 (Nat.le_of_ble_eq_true rfl) hl21 (fun _ h9 => h9) rfl dX0_normalizeProduct_17 ?_
  refine lv_iload_n hx hb dX0_normalizeProduct_20 rfl (lv_at hl 0 rfl) ?_
  refine z_lald hx hb hK hP 2 rfl 3 zx3 (by decide) (v := fR 3) rfl dX0_normalizeProduct_21 ?_
  refine lv_lmul hx hb dX0_normalizeProduct_22 ?_
  refine lv_ladd hx hb dX0_normalizeProduct_23 ?_
  refine lv_lstore_n (lv' := [(1, .long ((((0 + ((fR 0) * (fR 0))) + ((fR 1) * (fR 1))) + ((fR 2) * (fR 2))) + ((fR 3) * (fR 3)))), (3, .int 3), (0, .ref h)]) hx hb dX0_normalizeProduct_24 rfl hl (by decide) rfl (fun ls hl => ?_)
  refine lv_iinc (v := 4) (lv' := [(3, .int 4), (1, .long ((((0 + ((fR 0) * (fR 0))) + ((fR 1) * (fR 1))) + ((fR 2) * (fR 2))) + ((fR 3) * (fR 3)))), (0, .ref h)]) hx hb dX0_normalizeProduct_25 hl (k := 1) rfl (by decide) (by decide) rfl (fun ls hl => ?_)
  refine lv_goto (tgt := 4) hx hb dX0_normalizeProduct_28 (by decide) ?_
  refine lv_iload_n hx hb dX0_normalizeProduct_4 rfl (lv_at hl 0 rfl) ?_
  refine lv_iconst (v := 4) hx hb dX0_normalizeProduct_5 (by decide) ?_
  refine lv_icmp_ge (tgt := 31) hx hb dX0_normalizeProduct_6 (by decide) (fun _ => ?_) (fun c => absurd (by decide) c)
  have hq_1 : (((0 + ((fR 0) * (fR 0))) + ((fR 1) * (fR 1))) + ((fR 2) * (fR 2))) + ((fR 3) * (fR 3)) = qss fR := by first | exact qss_0 fR | (rw [Int64.zero_add]; exact qss_0 fR)
  rw [hq_1] at hl
  have hl : lv_has ls 6 [(3, .int 4), (1, .long (qss fR)), (0, .ref h)] := hl
  refine lv_ldc2 hx hb hown hl38 dX0_normalizeProduct_31 ?_
  refine lv_ldc2 hx hb hown hl38 dX0_normalizeProduct_34 ?_
  refine lv_lload_n hx hb dX0_normalizeProduct_37 rfl (lv_at hl 1 rfl) ?_
  refine lv_bipush (v := 28) hx hb dX0_normalizeProduct_38 (by decide) ?_
  refine lv_lshr (v := sar (qss fR) 28) hx hb dX0_normalizeProduct_40 rfl ?_
  refine lv_lsub hx hb dX0_normalizeProduct_41 ?_
  refine lv_iconst (v := 1) hx hb dX0_normalizeProduct_42 (by decide) ?_
  refine lv_lshr (v := sar (268435456 - (sar (qss fR) 28)) 1) hx hb dX0_normalizeProduct_43 rfl ?_
  refine lv_ladd hx hb dX0_normalizeProduct_44 ?_
  refine lv_lstore_n (lv' := [(3, .long (268435456 + (sar (268435456 - (sar (qss fR) 28)) 1))), (1, .long (qss fR)), (0, .ref h)]) hx hb dX0_normalizeProduct_45 rfl hl (by decide) rfl (fun ls hl => ?_)
  refine lv_iconst (v := 0) hx hb dX0_normalizeProduct_46 (by decide) ?_
  refine lv_istore (lv' := [(5, .int 0), (3, .long (268435456 + (sar (268435456 - (sar (qss fR) 28)) 1))), (1, .long (qss fR)), (0, .ref h)]) hx hb dX0_normalizeProduct_47 hl (by decide) rfl (fun ls hl => ?_)
  refine lv_iload hx hb dX0_normalizeProduct_49 (lv_at hl 0 rfl) ?_
  refine lv_iconst (v := 4) hx hb dX0_normalizeProduct_51 (by decide) ?_
  refine lv_icmp_ge (tgt := 80) hx hb dX0_normalizeProduct_52 (by decide) (fun c => absurd c (by decide)) (fun _ => ?_)
  refine lv_aload_n hx hb dX0_normalizeProduct_55 rfl (lv_at hl 3 rfl) ?_
  refine va_get (D := D) (ci := 0) (v := .ref ap) (C := RX0) (T := TX0) (N := 5) hx hb hts hinX0 hown hK hP 0 rfl rfl 0 (Nat.le_of_ble_eq_true rfl) hl9 (fun _ h9 => h9) rfl dX0_normalizeProduct_56 ?_
  refine lv_iload hx hb dX0_normalizeProduct_59 (lv_at hl 0 rfl) ?_
  refine lv_aload_n hx hb dX0_normalizeProduct_61 rfl (lv_at hl 3 rfl) ?_
  refine va_get (D := D) (ci := 0) (v := .ref ar) (C := RX0) (T := TX0) (N := 5) hx hb hts hinX0 hown hK hP 0 rfl rfl 3 (Nat.le_of_ble_eq_true rfl) hl21 (fun _ h9 => h9) rfl dX0_normalizeProduct_62 ?_
  refine lv_iload hx hb dX0_normalizeProduct_65 (lv_at hl 0 rfl) ?_
  refine z_lald hx hb hK hP 2 rfl 0 zx0 (by decide) (v := fR 0) rfl dX0_normalizeProduct_67 ?_
  refine lv_lload_n hx hb dX0_normalizeProduct_68 rfl (lv_at hl 1 rfl) ?_
  refine lv_lmul hx hb dX0_normalizeProduct_69 ?_
  refine lv_bipush (v := 28) hx hb dX0_normalizeProduct_70 (by decide) ?_
  refine lv_lshr (v := sar ((fR 0) * (268435456 + (sar (268435456 - (sar (qss fR) 28)) 1))) 28) hx hb dX0_normalizeProduct_72 rfl ?_
  refine z_last hx hb hK hP hD hS 1 rfl 0 zx0 (by decide) (ws' := [(h, .inr (0, [.ref ap, .ref as1, .ref ai, .ref ar, .ref am])), (ap, zaJ k 4 (vp_updL fP 0 (sar ((fR 0) * (268435456 + (sar (268435456 - (sar (qss fR) 28)) 1))) 28))), (ar, zaJ k 4 fR)]) rfl dX0_normalizeProduct_73 (fun H locs hP hD hS => ?_)
  refine lv_iinc (v := 1) (lv' := [(5, .int 1), (3, .long (268435456 + (sar (268435456 - (sar (qss fR) 28)) 1))), (1, .long (qss fR)), (0, .ref h)]) hx hb dX0_normalizeProduct_74 hl (k := 0) rfl (by decide) (by decide) rfl (fun ls hl => ?_)
  refine lv_goto (tgt := 49) hx hb dX0_normalizeProduct_77 (by decide) ?_
  refine lv_iload hx hb dX0_normalizeProduct_49 (lv_at hl 0 rfl) ?_
  refine lv_iconst (v := 4) hx hb dX0_normalizeProduct_51 (by decide) ?_
  refine lv_icmp_ge (tgt := 80) hx hb dX0_normalizeProduct_52 (by decide) (fun c => absurd c (by decide)) (fun _ => ?_)
  refine lv_aload_n hx hb dX0_normalizeProduct_55 rfl (lv_at hl 3 rfl) ?_
  refine va_get (D := D) (ci := 0) (v := .ref ap) (C := RX0) (T := TX0) (N := 5) hx hb hts hinX0 hown hK hP 0 rfl rfl 0 (Nat.le_of_ble_eq_true rfl) hl9 (fun _ h9 => h9) rfl dX0_normalizeProduct_56 ?_
  refine lv_iload hx hb dX0_normalizeProduct_59 (lv_at hl 0 rfl) ?_
  refine lv_aload_n hx hb dX0_normalizeProduct_61 rfl (lv_at hl 3 rfl) ?_
  refine va_get (D := D) (ci := 0) (v := .ref ar) (C := RX0) (T := TX0) (N := 5) hx hb hts hinX0 hown hK hP 0 rfl rfl 3 (Nat.le_of_ble_eq_true rfl) hl21 (fun _ h9 => h9) rfl dX0_normalizeProduct_62 ?_
  refine lv_iload hx hb dX0_normalizeProduct_65 (lv_at hl 0 rfl) ?_
  refine z_lald hx hb hK hP 2 rfl 1 zx1 (by decide) (v := fR 1) rfl dX0_normalizeProduct_67 ?_
  refine lv_lload_n hx hb dX0_normalizeProduct_68 rfl (lv_at hl 1 rfl) ?_
  refine lv_lmul hx hb dX0_normalizeProduct_69 ?_
  refine lv_bipush (v := 28) hx hb dX0_normalizeProduct_70 (by decide) ?_
  refine lv_lshr (v := sar ((fR 1) * (268435456 + (sar (268435456 - (sar (qss fR) 28)) 1))) 28) hx hb dX0_normalizeProduct_72 rfl ?_
  refine z_last hx hb hK hP hD hS 1 rfl 1 zx1 (by decide) (ws' := [(h, .inr (0, [.ref ap, .ref as1, .ref ai, .ref ar, .ref am])), (ap, zaJ k 4 (vp_updL (vp_updL fP 0 (sar ((fR 0) * (268435456 + (sar (268435456 - (sar (qss fR) 28)) 1))) 28)) 1 (sar ((fR 1) * (268435456 + (sar (268435456 - (sar (qss fR) 28)) 1))) 28))), (ar, zaJ k 4 fR)]) rfl dX0_normalizeProduct_73 (fun H locs hP hD hS => ?_)
  refine lv_iinc (v := 2) (lv' := [(5, .int 2), (3, .long (268435456 + (sar (268435456 - (sar (qss fR) 28)) 1))), (1, .long (qss fR)), (0, .ref h)]) hx hb dX0_normalizeProduct_74 hl (k := 0) rfl (by decide) (by decide) rfl (fun ls hl => ?_)
  refine lv_goto (tgt := 49) hx hb dX0_normalizeProduct_77 (by decide) ?_
  refine lv_iload hx hb dX0_normalizeProduct_49 (lv_at hl 0 rfl) ?_
  refine lv_iconst (v := 4) hx hb dX0_normalizeProduct_51 (by decide) ?_
  refine lv_icmp_ge (tgt := 80) hx hb dX0_normalizeProduct_52 (by decide) (fun c => absurd c (by decide)) (fun _ => ?_)
  refine lv_aload_n hx hb dX0_normalizeProduct_55 rfl (lv_at hl 3 rfl) ?_
  refine va_get (D := D) (ci := 0) (v := .ref ap) (C := RX0) (T := TX0) (N := 5) hx hb hts hinX0 hown hK hP 0 rfl rfl 0 (Nat.le_of_ble_eq_true rfl) hl9 (fun _ h9 => h9) rfl dX0_normalizeProduct_56 ?_
  refine lv_iload hx hb dX0_normalizeProduct_59 (lv_at hl 0 rfl) ?_
  refine lv_aload_n hx hb dX0_normalizeProduct_61 rfl (lv_at hl 3 rfl) ?_
  refine va_get (D := D) (ci := 0) (v := .ref ar) (C := RX0) (T := TX0) (N := 5) hx hb hts hinX0 hown hK hP 0 rfl rfl 3 (Nat.le_of_ble_eq_true rfl) hl21 (fun _ h9 => h9) rfl dX0_normalizeProduct_62 ?_
  refine lv_iload hx hb dX0_normalizeProduct_65 (lv_at hl 0 rfl) ?_
  refine z_lald hx hb hK hP 2 rfl 2 zx2 (by decide) (v := fR 2) rfl dX0_normalizeProduct_67 ?_
  refine lv_lload_n hx hb dX0_normalizeProduct_68 rfl (lv_at hl 1 rfl) ?_
  refine lv_lmul hx hb dX0_normalizeProduct_69 ?_
  refine lv_bipush (v := 28) hx hb dX0_normalizeProduct_70 (by decide) ?_
  refine lv_lshr (v := sar ((fR 2) * (268435456 + (sar (268435456 - (sar (qss fR) 28)) 1))) 28) hx hb dX0_normalizeProduct_72 rfl ?_
  refine z_last hx hb hK hP hD hS 1 rfl 2 zx2 (by decide) (ws' := [(h, .inr (0, [.ref ap, .ref as1, .ref ai, .ref ar, .ref am])), (ap, zaJ k 4 (vp_updL (vp_updL (vp_updL fP 0 (sar ((fR 0) * (268435456 + (sar (268435456 - (sar (qss fR) 28)) 1))) 28)) 1 (sar ((fR 1) * (268435456 + (sar (268435456 - (sar (qss fR) 28)) 1))) 28)) 2 (sar ((fR 2) * (268435456 + (sar (268435456 - (sar (qss fR) 28)) 1))) 28))), (ar, zaJ k 4 fR)]) rfl dX0_normalizeProduct_73 (fun H locs hP hD hS => ?_)
  refine lv_iinc (v := 3) (lv' := [(5, .int 3), (3, .long (268435456 + (sar (268435456 - (sar (qss fR) 28)) 1))), (1, .long (qss fR)), (0, .ref h)]) hx hb dX0_normalizeProduct_74 hl (k := 0) rfl (by decide) (by decide) rfl (fun ls hl => ?_)
  refine lv_goto (tgt := 49) hx hb dX0_normalizeProduct_77 (by decide) ?_
  refine lv_iload hx hb dX0_normalizeProduct_49 (lv_at hl 0 rfl) ?_
  refine lv_iconst (v := 4) hx hb dX0_normalizeProduct_51 (by decide) ?_
  refine lv_icmp_ge (tgt := 80) hx hb dX0_normalizeProduct_52 (by decide) (fun c => absurd c (by decide)) (fun _ => ?_)
  refine lv_aload_n hx hb dX0_normalizeProduct_55 rfl (lv_at hl 3 rfl) ?_
  refine va_get (D := D) (ci := 0) (v := .ref ap) (C := RX0) (T := TX0) (N := 5) hx hb hts hinX0 hown hK hP 0 rfl rfl 0 (Nat.le_of_ble_eq_true rfl) hl9 (fun _ h9 => h9) rfl dX0_normalizeProduct_56 ?_
  refine lv_iload hx hb dX0_normalizeProduct_59 (lv_at hl 0 rfl) ?_
  refine lv_aload_n hx hb dX0_normalizeProduct_61 rfl (lv_at hl 3 rfl) ?_
  refine va_get (D := D) (ci := 0) (v := .ref ar) (C := RX0) (T := TX0) (N := 5) hx hb hts hinX0 hown hK hP 0 rfl rfl 3 (Nat.le_of_ble_eq_true rfl) hl21 (fun _ h9 => h9) rfl dX0_normalizeProduct_62 ?_
  refine lv_iload hx hb dX0_normalizeProduct_65 (lv_at hl 0 rfl) ?_
  refine z_lald hx hb hK hP 2 rfl 3 zx3 (by decide) (v := fR 3) rfl dX0_normalizeProduct_67 ?_
  refine lv_lload_n hx hb dX0_normalizeProduct_68 rfl (lv_at hl 1 rfl) ?_
  refine lv_lmul hx hb dX0_normalizeProduct_69 ?_
  refine lv_bipush (v := 28) hx hb dX0_normalizeProduct_70 (by decide) ?_
  refine lv_lshr (v := sar ((fR 3) * (268435456 + (sar (268435456 - (sar (qss fR) 28)) 1))) 28) hx hb dX0_normalizeProduct_72 rfl ?_
  refine z_last hx hb hK hP hD hS 1 rfl 3 zx3 (by decide) (ws' := [(h, .inr (0, [.ref ap, .ref as1, .ref ai, .ref ar, .ref am])), (ap, zaJ k 4 (vp_updL (vp_updL (vp_updL (vp_updL fP 0 (sar ((fR 0) * (268435456 + (sar (268435456 - (sar (qss fR) 28)) 1))) 28)) 1 (sar ((fR 1) * (268435456 + (sar (268435456 - (sar (qss fR) 28)) 1))) 28)) 2 (sar ((fR 2) * (268435456 + (sar (268435456 - (sar (qss fR) 28)) 1))) 28)) 3 (sar ((fR 3) * (268435456 + (sar (268435456 - (sar (qss fR) 28)) 1))) 28))), (ar, zaJ k 4 fR)]) rfl dX0_normalizeProduct_73 (fun H locs hP hD hS => ?_)
  refine lv_iinc (v := 4) (lv' := [(5, .int 4), (3, .long (268435456 + (sar (268435456 - (sar (qss fR) 28)) 1))), (1, .long (qss fR)), (0, .ref h)]) hx hb dX0_normalizeProduct_74 hl (k := 0) rfl (by decide) (by decide) rfl (fun ls hl => ?_)
  refine lv_goto (tgt := 49) hx hb dX0_normalizeProduct_77 (by decide) ?_
  refine lv_iload hx hb dX0_normalizeProduct_49 (lv_at hl 0 rfl) ?_
  refine lv_iconst (v := 4) hx hb dX0_normalizeProduct_51 (by decide) ?_
  refine lv_icmp_ge (tgt := 80) hx hb dX0_normalizeProduct_52 (by decide) (fun _ => ?_) (fun c => absurd (by decide) c)
  have hP := z_congJ hP 1 rfl (g := qnorm fR) (zall4 (by rfl) (by rfl) (by rfl) (by rfl)) (ws' := [(h, .inr (0, [.ref ap, .ref as1, .ref ai, .ref ar, .ref am])), (ap, zaJ k 4 (qnorm fR)), (ar, zaJ k 4 fR)]) rfl
  have hD := z_congDJ hD 1 rfl (g := qnorm fR) (ws' := [(h, .inr (0, [.ref ap, .ref as1, .ref ai, .ref ar, .ref am])), (ap, zaJ k 4 (qnorm fR)), (ar, zaJ k 4 fR)]) rfl
  have hP9 := hP.sub (ws' := [(h, .inr (0, [.ref ap, .ref as1, .ref ai, .ref ar, .ref am])), (ap, zaJ k 4 (qnorm fR)), (ar, zaJ k 4 fR)]) [0, 1, 2] rfl
  have hD9 := hD.sub (ws' := [(h, .inr (0, [.ref ap, .ref as1, .ref ai, .ref ar, .ref am])), (ap, zaJ k 4 (qnorm fR)), (ar, zaJ k 4 fR)]) [0, 1, 2] (by decide) rfl
  exact W.vret hx hb hr (fun t9 ht9 hW9 => ⟨⟨[(h, .inr (0, [.ref ap, .ref as1, .ref ai, .ref ar, .ref am])), (ap, zaJ k 4 (qnorm fR)), (ar, zaJ k 4 fR)], rfl, rfl, by rw [ht9]; exact hP9, hD9⟩, hS.F ht9⟩) hS.2.2 dX0_normalizeProduct_80
set_option maxHeartbeats 4000000 in
set_option maxRecDepth 100000 in
theorem c_X0_multiplyBy (l : Launch) (D : va_G) (k : Nat → ClassId) (sz : Nat) (h ap as1 ai ar am r0 r1 r2 : Nat) (fP fS fI fR fM0 fM1 fM2 : Nat → Int64) (gc gs g0 g1 g2 : Int64) : Met l yX0_multiplyBy wsX0_multiplyBy ({ frames := 1, cells := 0, slots := 0, locals := 28 } : Room) (va_Pc [.ref h, .long gc, .long gs, .long g0, .long g1, .long g2] (zPre D k [(h, .inr (0, [.ref ap, .ref as1, .ref ai, .ref ar, .ref am])), (ap, zaJ k 4 fP), (as1, zaJ k 4 fS), (ai, zaJ k 4 fI), (ar, zaJ k 4 fR), (am, zaG k 3 (gr3 r0 r1 r2)), (r0, zaJ k 3 fM0), (r1, zaJ k 3 fM1), (r2, zaJ k 3 fM2)] sz zX0)) (zQv D [(h, .inr (0, [.ref ap, .ref as1, .ref ai, .ref ar, .ref am])), (ap, zaJ k 4 fP), (as1, zaJ k 4 fS), (ai, zaJ k 4 fI), (ar, zaJ k 4 fR), (am, zaG k 3 (gr3 r0 r1 r2)), (r0, zaJ k 3 fM0), (r1, zaJ k 3 fM1), (r2, zaJ k 3 fM2)] sz (fun w : va_W => ∃ (fS2 fR2 : Nat → Int64), w = [(h, .inr (0, [.ref ap, .ref as1, .ref ai, .ref ar, .ref am])), (ap, zaJ k 4 (qby fP gc gs g0 g1 g2)), (as1, zaJ k 4 fS2), (ai, zaJ k 4 fI), (ar, zaJ k 4 fR2), (am, zaG k 3 (gr3 r0 r1 r2)), (r0, zaJ k 3 (mrow0 (qby fP gc gs g0 g1 g2))), (r1, zaJ k 3 (mrow1 (qby fP gc gs g0 g1 g2))), (r2, zaJ k 3 (mrow2 (qby fP gc gs g0 g1 g2)))])) 0 0 (va_A [(h, .inr (0, [.ref ap, .ref as1, .ref ai, .ref ar, .ref am])), (ap, zaJ k 4 fP), (as1, zaJ k 4 fS), (ai, zaJ k 4 fI), (ar, zaJ k 4 fR), (am, zaG k 3 (gr3 r0 r1 r2)), (r0, zaJ k 3 fM0), (r1, zaJ k 3 fM1), (r2, zaJ k 3 fM2)] sz) := by
  refine Met.ofW (cc := cX0_multiplyBy) (maxL := 11) (ret := none) (by decide) rfl ?_
  intro p e s m args below meth c s₁ B hml hv
  obtain ⟨rfl, hsz, hP, hK, hD0, hE⟩ := hv
  have hx := B.exec
  have hb := B.bytes
  have hr := B.returns
  have hts := atoms_spec (ws := wsX0_multiplyBy) B.pre
  have hown : s.vm.findClass RX0 = some m.cls := findClass_of_methodNamed B.named
  have hlocks := B.notSynchronized
  subst hsz
  have hD := hD0.self (sz := s.heap.size)
  delta zQv zB
  generalize hAe : va_A [(h, .inr (0, [.ref ap, .ref as1, .ref ai, .ref ar, .ref am])), (ap, zaJ k 4 fP), (as1, zaJ k 4 fS), (ai, zaJ k 4 fI), (ar, zaJ k 4 fR), (am, zaG k 3 (gr3 r0 r1 r2)), (r0, zaJ k 3 fM0), (r1, zaJ k 3 fM1), (r2, zaJ k 3 fM2)] s.heap.size = A at hD hE ⊢
  have hA : ∀ q : Nat, s.heap.size ≤ q → A q := fun q h => by rw [← hAe]; exact Or.inr h
  have hS : va_S A s.heap s.heap [] := va_S.rf
  have hl := lv_entry [.ref h, .long gc, .long gs, .long g0, .long g1, .long g2] (n := 11) (Nat.le_of_ble_eq_true rfl)
  rw [lg_entry_eq]
  generalize (lg_sl [.ref h, .long gc, .long gs, .long g0, .long g1, .long g2] ++ List.replicate (11 - (lg_sl [.ref h, .long gc, .long gs, .long g0, .long g1, .long g2]).length) Slot.unset).toArray = ls at hl ⊢
  have hl : lv_has ls 11 [(0, .ref h), (1, .long gc), (3, .long gs), (5, .long g0), (7, .long g1), (9, .long g2)] := hl
  have hl15 : (Cond.fieldLink RX0 15 "InertialReference$Attitude" "step" "[J").before #[Value.ref h, Value.long gc, Value.long gs, Value.long g0, Value.long g1, Value.long g2] s = true := zw hts 1 rfl
  have hinX0 : ∀ w ∈ u_ws RX0 TX0 5, w ∈ wsX0_multiplyBy := fun w h => List.mem_cons_of_mem _ (List.mem_append_right _ h)
  have hl9 : (Cond.fieldLink RX0 9 "InertialReference$Attitude" "parts" "[J").before #[Value.ref h, Value.long gc, Value.long gs, Value.long g0, Value.long g1, Value.long g2] s = true := zw hts 2 rfl
  have hl21 : (Cond.fieldLink RX0 21 "InertialReference$Attitude" "product" "[J").before #[Value.ref h, Value.long gc, Value.long gs, Value.long g0, Value.long g1, Value.long g2] s = true := zw hts 3 rfl
  refine lv_aload_n hx hb dX0_multiplyBy_0 rfl (lv_at hl 0 rfl) ?_
  refine va_get (D := D) (ci := 0) (v := .ref as1) (C := RX0) (T := TX0) (N := 5) hx hb hts hinX0 hown hK hP 0 rfl rfl 1 (Nat.le_of_ble_eq_true rfl) hl15 (fun _ h9 => h9) rfl dX0_multiplyBy_1 ?_
  refine lv_iconst (v := 0) hx hb dX0_multiplyBy_4 (by decide) ?_
  refine lv_lload_n hx hb dX0_multiplyBy_5 rfl (lv_at hl 1 rfl) ?_
  refine z_last hx hb hK hP hD hS 2 rfl 0 zx0 (by decide) (ws' := [(h, .inr (0, [.ref ap, .ref as1, .ref ai, .ref ar, .ref am])), (ap, zaJ k 4 fP), (as1, zaJ k 4 (vp_updL fS 0 gc)), (ai, zaJ k 4 fI), (ar, zaJ k 4 fR), (am, zaG k 3 (gr3 r0 r1 r2)), (r0, zaJ k 3 fM0), (r1, zaJ k 3 fM1), (r2, zaJ k 3 fM2)]) rfl dX0_multiplyBy_6 (fun H locs hP hD hS => ?_)
  refine lv_aload_n hx hb dX0_multiplyBy_7 rfl (lv_at hl 0 rfl) ?_
  refine va_get (D := D) (ci := 0) (v := .ref as1) (C := RX0) (T := TX0) (N := 5) hx hb hts hinX0 hown hK hP 0 rfl rfl 1 (Nat.le_of_ble_eq_true rfl) hl15 (fun _ h9 => h9) rfl dX0_multiplyBy_8 ?_
  refine lv_iconst (v := 1) hx hb dX0_multiplyBy_11 (by decide) ?_
  refine lv_lload hx hb dX0_multiplyBy_12 (lv_at hl 3 rfl) ?_
  refine lv_lload_n hx hb dX0_multiplyBy_14 rfl (lv_at hl 2 rfl) ?_
  refine lv_lmul hx hb dX0_multiplyBy_15 ?_
  refine lv_bipush (v := 28) hx hb dX0_multiplyBy_16 (by decide) ?_
  refine lv_lshr (v := sar (g0 * gs) 28) hx hb dX0_multiplyBy_18 rfl ?_
  refine z_last hx hb hK hP hD hS 2 rfl 1 zx1 (by decide) (ws' := [(h, .inr (0, [.ref ap, .ref as1, .ref ai, .ref ar, .ref am])), (ap, zaJ k 4 fP), (as1, zaJ k 4 (vp_updL (vp_updL fS 0 gc) 1 (sar (g0 * gs) 28))), (ai, zaJ k 4 fI), (ar, zaJ k 4 fR), (am, zaG k 3 (gr3 r0 r1 r2)), (r0, zaJ k 3 fM0), (r1, zaJ k 3 fM1), (r2, zaJ k 3 fM2)]) rfl dX0_multiplyBy_19 (fun H locs hP hD hS => ?_)
  refine lv_aload_n hx hb dX0_multiplyBy_20 rfl (lv_at hl 0 rfl) ?_
  refine va_get (D := D) (ci := 0) (v := .ref as1) (C := RX0) (T := TX0) (N := 5) hx hb hts hinX0 hown hK hP 0 rfl rfl 1 (Nat.le_of_ble_eq_true rfl) hl15 (fun _ h9 => h9) rfl dX0_multiplyBy_21 ?_
  refine lv_iconst (v := 2) hx hb dX0_multiplyBy_24 (by decide) ?_
  refine lv_lload hx hb dX0_multiplyBy_25 (lv_at hl 4 rfl) ?_
  refine lv_lload_n hx hb dX0_multiplyBy_27 rfl (lv_at hl 2 rfl) ?_
  refine lv_lmul hx hb dX0_multiplyBy_28 ?_
  refine lv_bipush (v := 28) hx hb dX0_multiplyBy_29 (by decide) ?_
  refine lv_lshr (v := sar (g1 * gs) 28) hx hb dX0_multiplyBy_31 rfl ?_
  refine z_last hx hb hK hP hD hS 2 rfl 2 zx2 (by decide) (ws' := [(h, .inr (0, [.ref ap, .ref as1, .ref ai, .ref ar, .ref am])), (ap, zaJ k 4 fP), (as1, zaJ k 4 (vp_updL (vp_updL (vp_updL fS 0 gc) 1 (sar (g0 * gs) 28)) 2 (sar (g1 * gs) 28))), (ai, zaJ k 4 fI), (ar, zaJ k 4 fR), (am, zaG k 3 (gr3 r0 r1 r2)), (r0, zaJ k 3 fM0), (r1, zaJ k 3 fM1), (r2, zaJ k 3 fM2)]) rfl dX0_multiplyBy_32 (fun H locs hP hD hS => ?_)
  refine lv_aload_n hx hb dX0_multiplyBy_33 rfl (lv_at hl 0 rfl) ?_
  refine va_get (D := D) (ci := 0) (v := .ref as1) (C := RX0) (T := TX0) (N := 5) hx hb hts hinX0 hown hK hP 0 rfl rfl 1 (Nat.le_of_ble_eq_true rfl) hl15 (fun _ h9 => h9) rfl dX0_multiplyBy_34 ?_
  refine lv_iconst (v := 3) hx hb dX0_multiplyBy_37 (by decide) ?_
  refine lv_lload hx hb dX0_multiplyBy_38 (lv_at hl 5 rfl) ?_
  refine lv_lload_n hx hb dX0_multiplyBy_40 rfl (lv_at hl 2 rfl) ?_
  refine lv_lmul hx hb dX0_multiplyBy_41 ?_
  refine lv_bipush (v := 28) hx hb dX0_multiplyBy_42 (by decide) ?_
  refine lv_lshr (v := sar (g2 * gs) 28) hx hb dX0_multiplyBy_44 rfl ?_
  refine z_last hx hb hK hP hD hS 2 rfl 3 zx3 (by decide) (ws' := [(h, .inr (0, [.ref ap, .ref as1, .ref ai, .ref ar, .ref am])), (ap, zaJ k 4 fP), (as1, zaJ k 4 (vp_updL (vp_updL (vp_updL (vp_updL fS 0 gc) 1 (sar (g0 * gs) 28)) 2 (sar (g1 * gs) 28)) 3 (sar (g2 * gs) 28))), (ai, zaJ k 4 fI), (ar, zaJ k 4 fR), (am, zaG k 3 (gr3 r0 r1 r2)), (r0, zaJ k 3 fM0), (r1, zaJ k 3 fM1), (r2, zaJ k 3 fM2)]) rfl dX0_multiplyBy_45 (fun H locs hP hD hS => ?_)
  refine lv_aload_n hx hb dX0_multiplyBy_46 rfl (lv_at hl 0 rfl) ?_
  refine va_get (D := D) (ci := 0) (v := .ref ap) (C := RX0) (T := TX0) (N := 5) hx hb hts hinX0 hown hK hP 0 rfl rfl 0 (Nat.le_of_ble_eq_true rfl) hl9 (fun _ h9 => h9) rfl dX0_multiplyBy_47 ?_
  refine lv_aload_n hx hb dX0_multiplyBy_50 rfl (lv_at hl 0 rfl) ?_
  refine va_get (D := D) (ci := 0) (v := .ref as1) (C := RX0) (T := TX0) (N := 5) hx hb hts hinX0 hown hK hP 0 rfl rfl 1 (Nat.le_of_ble_eq_true rfl) hl15 (fun _ h9 => h9) rfl dX0_multiplyBy_51 ?_
  refine lv_aload_n hx hb dX0_multiplyBy_54 rfl (lv_at hl 0 rfl) ?_
  refine va_get (D := D) (ci := 0) (v := .ref ar) (C := RX0) (T := TX0) (N := 5) hx hb hts hinX0 hown hK hP 0 rfl rfl 3 (Nat.le_of_ble_eq_true rfl) hl21 (fun _ h9 => h9) rfl dX0_multiplyBy_55 ?_
  refine z_callv0 (wc := [(ap, zaJ k 4 fP), (as1, zaJ k 4 (vp_updL (vp_updL (vp_updL (vp_updL fS 0 gc) 1 (sar (g0 * gs) 28)) 2 (sar (g1 * gs) 28)) 3 (sar (g2 * gs) 28))), (ar, zaJ k 4 fR)]) (wr := [(h, .inr (0, [.ref ap, .ref as1, .ref ai, .ref ar, .ref am])), (ai, zaJ k 4 fI), (am, zaG k 3 (gr3 r0 r1 r2)), (r0, zaJ k 3 fM0), (r1, zaJ k 3 fM1), (r2, zaJ k 3 fM2)]) (va_runS (As := [.ref ap, .ref as1, .ref ar]) (rest := []) ⟨hx, hb, hml, hown, hts⟩ (c_X0_multiply l D k H.size ap as1 ar fP (vp_updL (vp_updL (vp_updL (vp_updL fS 0 gc) 1 (sar (g0 * gs) 28)) 2 (sar (g1 * gs) 28)) 3 (sar (g2 * gs) 28)) fR) (va_cwS 3 hts gX0_multiplyBy_X0_multiply rfl rfl rfl (by decide +kernel) ⟨Nat.le_of_ble_eq_true rfl, Nat.le_of_ble_eq_true rfl⟩) (z_preS (wc := [(ap, zaJ k 4 fP), (as1, zaJ k 4 (vp_updL (vp_updL (vp_updL (vp_updL fS 0 gc) 1 (sar (g0 * gs) 28)) 2 (sar (g1 * gs) 28)) 3 (sar (g2 * gs) 28))), (ar, zaJ k 4 fR)]) hP hD hK [1, 2, 4] rfl rfl zb0 zp0) rfl rfl hl.1 rfl (lv_room (Nat.le_of_ble_eq_true rfl)) dX0_multiplyBy_58 ⟨Nat.zero_le _, Nat.zero_le _⟩) hP hD hS hA [1, 2, 4] [0, 3, 5, 6, 7, 8] rfl rfl rfl (by decide) (fun w H locs hF hP hD hS => ?_)
  subst hF
  have hP : va_P D vwCl [(h, .inr (0, [.ref ap, .ref as1, .ref ai, .ref ar, .ref am])), (ai, zaJ k 4 fI), (am, zaG k 3 (gr3 r0 r1 r2)), (r0, zaJ k 3 fM0), (r1, zaJ k 3 fM1), (r2, zaJ k 3 fM2), (ap, zaJ k 4 fP), (as1, zaJ k 4 (vp_updL (vp_updL (vp_updL (vp_updL fS 0 gc) 1 (sar (g0 * gs) 28)) 2 (sar (g1 * gs) 28)) 3 (sar (g2 * gs) 28))), (ar, zaJ k 4 (qmul fP (vp_updL (vp_updL (vp_updL (vp_updL fS 0 gc) 1 (sar (g0 * gs) 28)) 2 (sar (g1 * gs) 28)) 3 (sar (g2 * gs) 28))))] H := hP
  have hD : va_D A [(h, .inr (0, [.ref ap, .ref as1, .ref ai, .ref ar, .ref am])), (ai, zaJ k 4 fI), (am, zaG k 3 (gr3 r0 r1 r2)), (r0, zaJ k 3 fM0), (r1, zaJ k 3 fM1), (r2, zaJ k 3 fM2), (ap, zaJ k 4 fP), (as1, zaJ k 4 (vp_updL (vp_updL (vp_updL (vp_updL fS 0 gc) 1 (sar (g0 * gs) 28)) 2 (sar (g1 * gs) 28)) 3 (sar (g2 * gs) 28))), (ar, zaJ k 4 (qmul fP (vp_updL (vp_updL (vp_updL (vp_updL fS 0 gc) 1 (sar (g0 * gs) 28)) 2 (sar (g1 * gs) 28)) 3 (sar (g2 * gs) 28))))] := hD
  refine lv_aload_n hx hb dX0_multiplyBy_61 rfl (lv_at hl 0 rfl) ?_
  refine z_callv0 (wc := [(h, .inr (0, [.ref ap, .ref as1, .ref ai, .ref ar, .ref am])), (ap, zaJ k 4 fP), (ar, zaJ k 4 (qmul fP (vp_updL (vp_updL (vp_updL (vp_updL fS 0 gc) 1 (sar (g0 * gs) 28)) 2 (sar (g1 * gs) 28)) 3 (sar (g2 * gs) 28))))]) (wr := [(ai, zaJ k 4 fI), (am, zaG k 3 (gr3 r0 r1 r2)), (r0, zaJ k 3 fM0), (r1, zaJ k 3 fM1), (r2, zaJ k 3 fM2), (as1, zaJ k 4 (vp_updL (vp_updL (vp_updL (vp_updL fS 0 gc) 1 (sar (g0 * gs) 28)) 2 (sar (g1 * gs) 28)) 3 (sar (g2 * gs) 28)))]) (va_runV (As := []) (rest := []) ⟨hx, hb, hml, hown, hts⟩ (c_X0_normalizeProduct l D k H.size h ap as1 ai ar am fP (qmul fP (vp_updL (vp_updL (vp_updL (vp_updL fS 0 gc) 1 (sar (g0 * gs) 28)) 2 (sar (g1 * gs) 28)) 3 (sar (g2 * gs) 28)))) (cwV 0 hts gX0_multiplyBy_X0_normalizeProduct rfl rfl rfl (by decide +kernel) ⟨Nat.le_of_ble_eq_true rfl, Nat.le_of_ble_eq_true rfl⟩) (z_preV (wc := [(h, .inr (0, [.ref ap, .ref as1, .ref ai, .ref ar, .ref am])), (ap, zaJ k 4 fP), (ar, zaJ k 4 (qmul fP (vp_updL (vp_updL (vp_updL (vp_updL fS 0 gc) 1 (sar (g0 * gs) 28)) 2 (sar (g1 * gs) 28)) 3 (sar (g2 * gs) 28))))]) 0 0 hP hD hK [0, 6, 8] rfl rfl rfl rfl zb0 zp0) rfl rfl hl.1 rfl (lv_room (Nat.le_of_ble_eq_true rfl)) dX0_multiplyBy_62 ⟨Nat.zero_le _, Nat.zero_le _⟩) hP hD hS hA [0, 6, 8] [1, 2, 3, 4, 5, 7] rfl rfl rfl (by decide) (fun w H locs hF hP hD hS => ?_)
  subst hF
  have hP : va_P D vwCl [(ai, zaJ k 4 fI), (am, zaG k 3 (gr3 r0 r1 r2)), (r0, zaJ k 3 fM0), (r1, zaJ k 3 fM1), (r2, zaJ k 3 fM2), (as1, zaJ k 4 (vp_updL (vp_updL (vp_updL (vp_updL fS 0 gc) 1 (sar (g0 * gs) 28)) 2 (sar (g1 * gs) 28)) 3 (sar (g2 * gs) 28))), (h, .inr (0, [.ref ap, .ref as1, .ref ai, .ref ar, .ref am])), (ap, zaJ k 4 (qnorm (qmul fP (vp_updL (vp_updL (vp_updL (vp_updL fS 0 gc) 1 (sar (g0 * gs) 28)) 2 (sar (g1 * gs) 28)) 3 (sar (g2 * gs) 28))))), (ar, zaJ k 4 (qmul fP (vp_updL (vp_updL (vp_updL (vp_updL fS 0 gc) 1 (sar (g0 * gs) 28)) 2 (sar (g1 * gs) 28)) 3 (sar (g2 * gs) 28))))] H := hP
  have hD : va_D A [(ai, zaJ k 4 fI), (am, zaG k 3 (gr3 r0 r1 r2)), (r0, zaJ k 3 fM0), (r1, zaJ k 3 fM1), (r2, zaJ k 3 fM2), (as1, zaJ k 4 (vp_updL (vp_updL (vp_updL (vp_updL fS 0 gc) 1 (sar (g0 * gs) 28)) 2 (sar (g1 * gs) 28)) 3 (sar (g2 * gs) 28))), (h, .inr (0, [.ref ap, .ref as1, .ref ai, .ref ar, .ref am])), (ap, zaJ k 4 (qnorm (qmul fP (vp_updL (vp_updL (vp_updL (vp_updL fS 0 gc) 1 (sar (g0 * gs) 28)) 2 (sar (g1 * gs) 28)) 3 (sar (g2 * gs) 28))))), (ar, zaJ k 4 (qmul fP (vp_updL (vp_updL (vp_updL (vp_updL fS 0 gc) 1 (sar (g0 * gs) 28)) 2 (sar (g1 * gs) 28)) 3 (sar (g2 * gs) 28))))] := hD
  refine lv_aload_n hx hb dX0_multiplyBy_65 rfl (lv_at hl 0 rfl) ?_
  refine z_callv0 (wc := [(h, .inr (0, [.ref ap, .ref as1, .ref ai, .ref ar, .ref am])), (ap, zaJ k 4 (qnorm (qmul fP (vp_updL (vp_updL (vp_updL (vp_updL fS 0 gc) 1 (sar (g0 * gs) 28)) 2 (sar (g1 * gs) 28)) 3 (sar (g2 * gs) 28))))), (am, zaG k 3 (gr3 r0 r1 r2)), (r0, zaJ k 3 fM0), (r1, zaJ k 3 fM1), (r2, zaJ k 3 fM2)]) (wr := [(ai, zaJ k 4 fI), (as1, zaJ k 4 (vp_updL (vp_updL (vp_updL (vp_updL fS 0 gc) 1 (sar (g0 * gs) 28)) 2 (sar (g1 * gs) 28)) 3 (sar (g2 * gs) 28))), (ar, zaJ k 4 (qmul fP (vp_updL (vp_updL (vp_updL (vp_updL fS 0 gc) 1 (sar (g0 * gs) 28)) 2 (sar (g1 * gs) 28)) 3 (sar (g2 * gs) 28))))]) (va_runV (As := []) (rest := []) ⟨hx, hb, hml, hown, hts⟩ (c_X0_makeMatrix l D k H.size h ap as1 ai ar am r0 r1 r2 (qnorm (qmul fP (vp_updL (vp_updL (vp_updL (vp_updL fS 0 gc) 1 (sar (g0 * gs) 28)) 2 (sar (g1 * gs) 28)) 3 (sar (g2 * gs) 28)))) fM0 fM1 fM2) (cwV 0 hts gX0_multiplyBy_X0_makeMatrix rfl rfl rfl (by decide +kernel) ⟨Nat.le_of_ble_eq_true rfl, Nat.le_of_ble_eq_true rfl⟩) (z_preV (wc := [(h, .inr (0, [.ref ap, .ref as1, .ref ai, .ref ar, .ref am])), (ap, zaJ k 4 (qnorm (qmul fP (vp_updL (vp_updL (vp_updL (vp_updL fS 0 gc) 1 (sar (g0 * gs) 28)) 2 (sar (g1 * gs) 28)) 3 (sar (g2 * gs) 28))))), (am, zaG k 3 (gr3 r0 r1 r2)), (r0, zaJ k 3 fM0), (r1, zaJ k 3 fM1), (r2, zaJ k 3 fM2)]) 6 0 hP hD hK [6, 7, 1, 2, 3, 4] rfl rfl rfl rfl zb0 zp0) rfl rfl hl.1 rfl (lv_room (Nat.le_of_ble_eq_true rfl)) dX0_multiplyBy_66 ⟨Nat.zero_le _, Nat.zero_le _⟩) hP hD hS hA [6, 7, 1, 2, 3, 4] [0, 5, 8] rfl rfl rfl (by decide) (fun w H locs hF hP hD hS => ?_)
  subst hF
  have hP : va_P D vwCl [(ai, zaJ k 4 fI), (as1, zaJ k 4 (vp_updL (vp_updL (vp_updL (vp_updL fS 0 gc) 1 (sar (g0 * gs) 28)) 2 (sar (g1 * gs) 28)) 3 (sar (g2 * gs) 28))), (ar, zaJ k 4 (qmul fP (vp_updL (vp_updL (vp_updL (vp_updL fS 0 gc) 1 (sar (g0 * gs) 28)) 2 (sar (g1 * gs) 28)) 3 (sar (g2 * gs) 28)))), (h, .inr (0, [.ref ap, .ref as1, .ref ai, .ref ar, .ref am])), (ap, zaJ k 4 (qnorm (qmul fP (vp_updL (vp_updL (vp_updL (vp_updL fS 0 gc) 1 (sar (g0 * gs) 28)) 2 (sar (g1 * gs) 28)) 3 (sar (g2 * gs) 28))))), (am, zaG k 3 (gr3 r0 r1 r2)), (r0, zaJ k 3 (mrow0 (qnorm (qmul fP (vp_updL (vp_updL (vp_updL (vp_updL fS 0 gc) 1 (sar (g0 * gs) 28)) 2 (sar (g1 * gs) 28)) 3 (sar (g2 * gs) 28)))))), (r1, zaJ k 3 (mrow1 (qnorm (qmul fP (vp_updL (vp_updL (vp_updL (vp_updL fS 0 gc) 1 (sar (g0 * gs) 28)) 2 (sar (g1 * gs) 28)) 3 (sar (g2 * gs) 28)))))), (r2, zaJ k 3 (mrow2 (qnorm (qmul fP (vp_updL (vp_updL (vp_updL (vp_updL fS 0 gc) 1 (sar (g0 * gs) 28)) 2 (sar (g1 * gs) 28)) 3 (sar (g2 * gs) 28))))))] H := hP
  have hD : va_D A [(ai, zaJ k 4 fI), (as1, zaJ k 4 (vp_updL (vp_updL (vp_updL (vp_updL fS 0 gc) 1 (sar (g0 * gs) 28)) 2 (sar (g1 * gs) 28)) 3 (sar (g2 * gs) 28))), (ar, zaJ k 4 (qmul fP (vp_updL (vp_updL (vp_updL (vp_updL fS 0 gc) 1 (sar (g0 * gs) 28)) 2 (sar (g1 * gs) 28)) 3 (sar (g2 * gs) 28)))), (h, .inr (0, [.ref ap, .ref as1, .ref ai, .ref ar, .ref am])), (ap, zaJ k 4 (qnorm (qmul fP (vp_updL (vp_updL (vp_updL (vp_updL fS 0 gc) 1 (sar (g0 * gs) 28)) 2 (sar (g1 * gs) 28)) 3 (sar (g2 * gs) 28))))), (am, zaG k 3 (gr3 r0 r1 r2)), (r0, zaJ k 3 (mrow0 (qnorm (qmul fP (vp_updL (vp_updL (vp_updL (vp_updL fS 0 gc) 1 (sar (g0 * gs) 28)) 2 (sar (g1 * gs) 28)) 3 (sar (g2 * gs) 28)))))), (r1, zaJ k 3 (mrow1 (qnorm (qmul fP (vp_updL (vp_updL (vp_updL (vp_updL fS 0 gc) 1 (sar (g0 * gs) 28)) 2 (sar (g1 * gs) 28)) 3 (sar (g2 * gs) 28)))))), (r2, zaJ k 3 (mrow2 (qnorm (qmul fP (vp_updL (vp_updL (vp_updL (vp_updL fS 0 gc) 1 (sar (g0 * gs) 28)) 2 (sar (g1 * gs) 28)) 3 (sar (g2 * gs) 28))))))] := hD
  have hP := z_congJ hP 4 rfl (g := qby fP gc gs g0 g1 g2) (zall4 (by rfl) (by rfl) (by rfl) (by rfl)) (ws' := [(ai, zaJ k 4 fI), (as1, zaJ k 4 (vp_updL (vp_updL (vp_updL (vp_updL fS 0 gc) 1 (sar (g0 * gs) 28)) 2 (sar (g1 * gs) 28)) 3 (sar (g2 * gs) 28))), (ar, zaJ k 4 (qmul fP (vp_updL (vp_updL (vp_updL (vp_updL fS 0 gc) 1 (sar (g0 * gs) 28)) 2 (sar (g1 * gs) 28)) 3 (sar (g2 * gs) 28)))), (h, .inr (0, [.ref ap, .ref as1, .ref ai, .ref ar, .ref am])), (ap, zaJ k 4 (qby fP gc gs g0 g1 g2)), (am, zaG k 3 (gr3 r0 r1 r2)), (r0, zaJ k 3 (mrow0 (qnorm (qmul fP (vp_updL (vp_updL (vp_updL (vp_updL fS 0 gc) 1 (sar (g0 * gs) 28)) 2 (sar (g1 * gs) 28)) 3 (sar (g2 * gs) 28)))))), (r1, zaJ k 3 (mrow1 (qnorm (qmul fP (vp_updL (vp_updL (vp_updL (vp_updL fS 0 gc) 1 (sar (g0 * gs) 28)) 2 (sar (g1 * gs) 28)) 3 (sar (g2 * gs) 28)))))), (r2, zaJ k 3 (mrow2 (qnorm (qmul fP (vp_updL (vp_updL (vp_updL (vp_updL fS 0 gc) 1 (sar (g0 * gs) 28)) 2 (sar (g1 * gs) 28)) 3 (sar (g2 * gs) 28))))))]) rfl
  have hD := z_congDJ hD 4 rfl (g := qby fP gc gs g0 g1 g2) (ws' := [(ai, zaJ k 4 fI), (as1, zaJ k 4 (vp_updL (vp_updL (vp_updL (vp_updL fS 0 gc) 1 (sar (g0 * gs) 28)) 2 (sar (g1 * gs) 28)) 3 (sar (g2 * gs) 28))), (ar, zaJ k 4 (qmul fP (vp_updL (vp_updL (vp_updL (vp_updL fS 0 gc) 1 (sar (g0 * gs) 28)) 2 (sar (g1 * gs) 28)) 3 (sar (g2 * gs) 28)))), (h, .inr (0, [.ref ap, .ref as1, .ref ai, .ref ar, .ref am])), (ap, zaJ k 4 (qby fP gc gs g0 g1 g2)), (am, zaG k 3 (gr3 r0 r1 r2)), (r0, zaJ k 3 (mrow0 (qnorm (qmul fP (vp_updL (vp_updL (vp_updL (vp_updL fS 0 gc) 1 (sar (g0 * gs) 28)) 2 (sar (g1 * gs) 28)) 3 (sar (g2 * gs) 28)))))), (r1, zaJ k 3 (mrow1 (qnorm (qmul fP (vp_updL (vp_updL (vp_updL (vp_updL fS 0 gc) 1 (sar (g0 * gs) 28)) 2 (sar (g1 * gs) 28)) 3 (sar (g2 * gs) 28)))))), (r2, zaJ k 3 (mrow2 (qnorm (qmul fP (vp_updL (vp_updL (vp_updL (vp_updL fS 0 gc) 1 (sar (g0 * gs) 28)) 2 (sar (g1 * gs) 28)) 3 (sar (g2 * gs) 28))))))]) rfl
  have hP := z_congJ hP 6 rfl (g := mrow0 (qby fP gc gs g0 g1 g2)) (zall3 (by rfl) (by rfl) (by rfl)) (ws' := [(ai, zaJ k 4 fI), (as1, zaJ k 4 (vp_updL (vp_updL (vp_updL (vp_updL fS 0 gc) 1 (sar (g0 * gs) 28)) 2 (sar (g1 * gs) 28)) 3 (sar (g2 * gs) 28))), (ar, zaJ k 4 (qmul fP (vp_updL (vp_updL (vp_updL (vp_updL fS 0 gc) 1 (sar (g0 * gs) 28)) 2 (sar (g1 * gs) 28)) 3 (sar (g2 * gs) 28)))), (h, .inr (0, [.ref ap, .ref as1, .ref ai, .ref ar, .ref am])), (ap, zaJ k 4 (qby fP gc gs g0 g1 g2)), (am, zaG k 3 (gr3 r0 r1 r2)), (r0, zaJ k 3 (mrow0 (qby fP gc gs g0 g1 g2))), (r1, zaJ k 3 (mrow1 (qnorm (qmul fP (vp_updL (vp_updL (vp_updL (vp_updL fS 0 gc) 1 (sar (g0 * gs) 28)) 2 (sar (g1 * gs) 28)) 3 (sar (g2 * gs) 28)))))), (r2, zaJ k 3 (mrow2 (qnorm (qmul fP (vp_updL (vp_updL (vp_updL (vp_updL fS 0 gc) 1 (sar (g0 * gs) 28)) 2 (sar (g1 * gs) 28)) 3 (sar (g2 * gs) 28))))))]) rfl
  have hD := z_congDJ hD 6 rfl (g := mrow0 (qby fP gc gs g0 g1 g2)) (ws' := [(ai, zaJ k 4 fI), (as1, zaJ k 4 (vp_updL (vp_updL (vp_updL (vp_updL fS 0 gc) 1 (sar (g0 * gs) 28)) 2 (sar (g1 * gs) 28)) 3 (sar (g2 * gs) 28))), (ar, zaJ k 4 (qmul fP (vp_updL (vp_updL (vp_updL (vp_updL fS 0 gc) 1 (sar (g0 * gs) 28)) 2 (sar (g1 * gs) 28)) 3 (sar (g2 * gs) 28)))), (h, .inr (0, [.ref ap, .ref as1, .ref ai, .ref ar, .ref am])), (ap, zaJ k 4 (qby fP gc gs g0 g1 g2)), (am, zaG k 3 (gr3 r0 r1 r2)), (r0, zaJ k 3 (mrow0 (qby fP gc gs g0 g1 g2))), (r1, zaJ k 3 (mrow1 (qnorm (qmul fP (vp_updL (vp_updL (vp_updL (vp_updL fS 0 gc) 1 (sar (g0 * gs) 28)) 2 (sar (g1 * gs) 28)) 3 (sar (g2 * gs) 28)))))), (r2, zaJ k 3 (mrow2 (qnorm (qmul fP (vp_updL (vp_updL (vp_updL (vp_updL fS 0 gc) 1 (sar (g0 * gs) 28)) 2 (sar (g1 * gs) 28)) 3 (sar (g2 * gs) 28))))))]) rfl
  have hP := z_congJ hP 7 rfl (g := mrow1 (qby fP gc gs g0 g1 g2)) (zall3 (by rfl) (by rfl) (by rfl)) (ws' := [(ai, zaJ k 4 fI), (as1, zaJ k 4 (vp_updL (vp_updL (vp_updL (vp_updL fS 0 gc) 1 (sar (g0 * gs) 28)) 2 (sar (g1 * gs) 28)) 3 (sar (g2 * gs) 28))), (ar, zaJ k 4 (qmul fP (vp_updL (vp_updL (vp_updL (vp_updL fS 0 gc) 1 (sar (g0 * gs) 28)) 2 (sar (g1 * gs) 28)) 3 (sar (g2 * gs) 28)))), (h, .inr (0, [.ref ap, .ref as1, .ref ai, .ref ar, .ref am])), (ap, zaJ k 4 (qby fP gc gs g0 g1 g2)), (am, zaG k 3 (gr3 r0 r1 r2)), (r0, zaJ k 3 (mrow0 (qby fP gc gs g0 g1 g2))), (r1, zaJ k 3 (mrow1 (qby fP gc gs g0 g1 g2))), (r2, zaJ k 3 (mrow2 (qnorm (qmul fP (vp_updL (vp_updL (vp_updL (vp_updL fS 0 gc) 1 (sar (g0 * gs) 28)) 2 (sar (g1 * gs) 28)) 3 (sar (g2 * gs) 28))))))]) rfl
  have hD := z_congDJ hD 7 rfl (g := mrow1 (qby fP gc gs g0 g1 g2)) (ws' := [(ai, zaJ k 4 fI), (as1, zaJ k 4 (vp_updL (vp_updL (vp_updL (vp_updL fS 0 gc) 1 (sar (g0 * gs) 28)) 2 (sar (g1 * gs) 28)) 3 (sar (g2 * gs) 28))), (ar, zaJ k 4 (qmul fP (vp_updL (vp_updL (vp_updL (vp_updL fS 0 gc) 1 (sar (g0 * gs) 28)) 2 (sar (g1 * gs) 28)) 3 (sar (g2 * gs) 28)))), (h, .inr (0, [.ref ap, .ref as1, .ref ai, .ref ar, .ref am])), (ap, zaJ k 4 (qby fP gc gs g0 g1 g2)), (am, zaG k 3 (gr3 r0 r1 r2)), (r0, zaJ k 3 (mrow0 (qby fP gc gs g0 g1 g2))), (r1, zaJ k 3 (mrow1 (qby fP gc gs g0 g1 g2))), (r2, zaJ k 3 (mrow2 (qnorm (qmul fP (vp_updL (vp_updL (vp_updL (vp_updL fS 0 gc) 1 (sar (g0 * gs) 28)) 2 (sar (g1 * gs) 28)) 3 (sar (g2 * gs) 28))))))]) rfl
  have hP := z_congJ hP 8 rfl (g := mrow2 (qby fP gc gs g0 g1 g2)) (zall3 (by rfl) (by rfl) (by rfl)) (ws' := [(ai, zaJ k 4 fI), (as1, zaJ k 4 (vp_updL (vp_updL (vp_updL (vp_updL fS 0 gc) 1 (sar (g0 * gs) 28)) 2 (sar (g1 * gs) 28)) 3 (sar (g2 * gs) 28))), (ar, zaJ k 4 (qmul fP (vp_updL (vp_updL (vp_updL (vp_updL fS 0 gc) 1 (sar (g0 * gs) 28)) 2 (sar (g1 * gs) 28)) 3 (sar (g2 * gs) 28)))), (h, .inr (0, [.ref ap, .ref as1, .ref ai, .ref ar, .ref am])), (ap, zaJ k 4 (qby fP gc gs g0 g1 g2)), (am, zaG k 3 (gr3 r0 r1 r2)), (r0, zaJ k 3 (mrow0 (qby fP gc gs g0 g1 g2))), (r1, zaJ k 3 (mrow1 (qby fP gc gs g0 g1 g2))), (r2, zaJ k 3 (mrow2 (qby fP gc gs g0 g1 g2)))]) rfl
  have hD := z_congDJ hD 8 rfl (g := mrow2 (qby fP gc gs g0 g1 g2)) (ws' := [(ai, zaJ k 4 fI), (as1, zaJ k 4 (vp_updL (vp_updL (vp_updL (vp_updL fS 0 gc) 1 (sar (g0 * gs) 28)) 2 (sar (g1 * gs) 28)) 3 (sar (g2 * gs) 28))), (ar, zaJ k 4 (qmul fP (vp_updL (vp_updL (vp_updL (vp_updL fS 0 gc) 1 (sar (g0 * gs) 28)) 2 (sar (g1 * gs) 28)) 3 (sar (g2 * gs) 28)))), (h, .inr (0, [.ref ap, .ref as1, .ref ai, .ref ar, .ref am])), (ap, zaJ k 4 (qby fP gc gs g0 g1 g2)), (am, zaG k 3 (gr3 r0 r1 r2)), (r0, zaJ k 3 (mrow0 (qby fP gc gs g0 g1 g2))), (r1, zaJ k 3 (mrow1 (qby fP gc gs g0 g1 g2))), (r2, zaJ k 3 (mrow2 (qby fP gc gs g0 g1 g2)))]) rfl
  have hP9 := hP.sub (ws' := [(h, .inr (0, [.ref ap, .ref as1, .ref ai, .ref ar, .ref am])), (ap, zaJ k 4 (qby fP gc gs g0 g1 g2)), (as1, zaJ k 4 (vp_updL (vp_updL (vp_updL (vp_updL fS 0 gc) 1 (sar (g0 * gs) 28)) 2 (sar (g1 * gs) 28)) 3 (sar (g2 * gs) 28))), (ai, zaJ k 4 fI), (ar, zaJ k 4 (qmul fP (vp_updL (vp_updL (vp_updL (vp_updL fS 0 gc) 1 (sar (g0 * gs) 28)) 2 (sar (g1 * gs) 28)) 3 (sar (g2 * gs) 28)))), (am, zaG k 3 (gr3 r0 r1 r2)), (r0, zaJ k 3 (mrow0 (qby fP gc gs g0 g1 g2))), (r1, zaJ k 3 (mrow1 (qby fP gc gs g0 g1 g2))), (r2, zaJ k 3 (mrow2 (qby fP gc gs g0 g1 g2)))]) [3, 4, 1, 0, 2, 5, 6, 7, 8] rfl
  have hD9 := hD.sub (ws' := [(h, .inr (0, [.ref ap, .ref as1, .ref ai, .ref ar, .ref am])), (ap, zaJ k 4 (qby fP gc gs g0 g1 g2)), (as1, zaJ k 4 (vp_updL (vp_updL (vp_updL (vp_updL fS 0 gc) 1 (sar (g0 * gs) 28)) 2 (sar (g1 * gs) 28)) 3 (sar (g2 * gs) 28))), (ai, zaJ k 4 fI), (ar, zaJ k 4 (qmul fP (vp_updL (vp_updL (vp_updL (vp_updL fS 0 gc) 1 (sar (g0 * gs) 28)) 2 (sar (g1 * gs) 28)) 3 (sar (g2 * gs) 28)))), (am, zaG k 3 (gr3 r0 r1 r2)), (r0, zaJ k 3 (mrow0 (qby fP gc gs g0 g1 g2))), (r1, zaJ k 3 (mrow1 (qby fP gc gs g0 g1 g2))), (r2, zaJ k 3 (mrow2 (qby fP gc gs g0 g1 g2)))]) [3, 4, 1, 0, 2, 5, 6, 7, 8] (by decide) rfl
  exact W.vret hx hb hr (fun t9 ht9 hW9 => ⟨⟨[(h, .inr (0, [.ref ap, .ref as1, .ref ai, .ref ar, .ref am])), (ap, zaJ k 4 (qby fP gc gs g0 g1 g2)), (as1, zaJ k 4 (vp_updL (vp_updL (vp_updL (vp_updL fS 0 gc) 1 (sar (g0 * gs) 28)) 2 (sar (g1 * gs) 28)) 3 (sar (g2 * gs) 28))), (ai, zaJ k 4 fI), (ar, zaJ k 4 (qmul fP (vp_updL (vp_updL (vp_updL (vp_updL fS 0 gc) 1 (sar (g0 * gs) 28)) 2 (sar (g1 * gs) 28)) 3 (sar (g2 * gs) 28)))), (am, zaG k 3 (gr3 r0 r1 r2)), (r0, zaJ k 3 (mrow0 (qby fP gc gs g0 g1 g2))), (r1, zaJ k 3 (mrow1 (qby fP gc gs g0 g1 g2))), (r2, zaJ k 3 (mrow2 (qby fP gc gs g0 g1 g2)))], rfl, ⟨(vp_updL (vp_updL (vp_updL (vp_updL fS 0 gc) 1 (sar (g0 * gs) 28)) 2 (sar (g1 * gs) 28)) 3 (sar (g2 * gs) 28)), (qmul fP (vp_updL (vp_updL (vp_updL (vp_updL fS 0 gc) 1 (sar (g0 * gs) 28)) 2 (sar (g1 * gs) 28)) 3 (sar (g2 * gs) 28))), rfl⟩, by rw [ht9]; exact hP9, hD9⟩, hS.F ht9⟩) hS.2.2 dX0_multiplyBy_69
set_option maxHeartbeats 4000000 in
set_option maxRecDepth 100000 in
theorem c_X0_turn (l : Launch) (D : va_G) (k : Nat → ClassId) (sz : Nat) (h ap as1 ai ar am r0 r1 r2 : Nat) (fP fS fI fR fM0 fM1 fM2 : Nat → Int64) (x y z : Int64) : Met l yX0_turn wsX0_turn ({ frames := 2, cells := 0, slots := 0, locals := 58 } : Room) (va_Pc [.ref h, .long x, .long y, .long z] (zPre D k [(h, .inr (0, [.ref ap, .ref as1, .ref ai, .ref ar, .ref am])), (ap, zaJ k 4 fP), (as1, zaJ k 4 fS), (ai, zaJ k 4 fI), (ar, zaJ k 4 fR), (am, zaG k 3 (gr3 r0 r1 r2)), (r0, zaJ k 3 fM0), (r1, zaJ k 3 fM1), (r2, zaJ k 3 fM2)] sz zX0)) (zQv D [(h, .inr (0, [.ref ap, .ref as1, .ref ai, .ref ar, .ref am])), (ap, zaJ k 4 fP), (as1, zaJ k 4 fS), (ai, zaJ k 4 fI), (ar, zaJ k 4 fR), (am, zaG k 3 (gr3 r0 r1 r2)), (r0, zaJ k 3 fM0), (r1, zaJ k 3 fM1), (r2, zaJ k 3 fM2)] sz (fun w : va_W => ∃ (fS2 fR2 : Nat → Int64), w = [(h, .inr (0, [.ref ap, .ref as1, .ref ai, .ref ar, .ref am])), (ap, zaJ k 4 (qturn fP x y z)), (as1, zaJ k 4 fS2), (ai, zaJ k 4 fI), (ar, zaJ k 4 fR2), (am, zaG k 3 (gr3 r0 r1 r2)), (r0, zaJ k 3 (mrow0 (qturn fP x y z))), (r1, zaJ k 3 (mrow1 (qturn fP x y z))), (r2, zaJ k 3 (mrow2 (qturn fP x y z)))])) 0 0 (va_A [(h, .inr (0, [.ref ap, .ref as1, .ref ai, .ref ar, .ref am])), (ap, zaJ k 4 fP), (as1, zaJ k 4 fS), (ai, zaJ k 4 fI), (ar, zaJ k 4 fR), (am, zaG k 3 (gr3 r0 r1 r2)), (r0, zaJ k 3 fM0), (r1, zaJ k 3 fM1), (r2, zaJ k 3 fM2)] sz) := by
  refine Met.ofW (cc := cX0_turn) (maxL := 15) (ret := none) (by decide) rfl ?_
  intro p e s m args below meth c s₁ B hml hv
  obtain ⟨rfl, hsz, hP, hK, hD0, hE⟩ := hv
  have hx := B.exec
  have hb := B.bytes
  have hr := B.returns
  have hts := atoms_spec (ws := wsX0_turn) B.pre
  have hown : s.vm.findClass RX0 = some m.cls := findClass_of_methodNamed B.named
  have hlocks := B.notSynchronized
  subst hsz
  have hD := hD0.self (sz := s.heap.size)
  delta zQv zB
  generalize hAe : va_A [(h, .inr (0, [.ref ap, .ref as1, .ref ai, .ref ar, .ref am])), (ap, zaJ k 4 fP), (as1, zaJ k 4 fS), (ai, zaJ k 4 fI), (ar, zaJ k 4 fR), (am, zaG k 3 (gr3 r0 r1 r2)), (r0, zaJ k 3 fM0), (r1, zaJ k 3 fM1), (r2, zaJ k 3 fM2)] s.heap.size = A at hD hE ⊢
  have hA : ∀ q : Nat, s.heap.size ≤ q → A q := fun q h => by rw [← hAe]; exact Or.inr h
  have hS : va_S A s.heap s.heap [] := va_S.rf
  have hl := lv_entry [.ref h, .long x, .long y, .long z] (n := 15) (Nat.le_of_ble_eq_true rfl)
  rw [lg_entry_eq]
  generalize (lg_sl [.ref h, .long x, .long y, .long z] ++ List.replicate (15 - (lg_sl [.ref h, .long x, .long y, .long z]).length) Slot.unset).toArray = ls at hl ⊢
  have hl : lv_has ls 15 [(0, .ref h), (1, .long x), (3, .long y), (5, .long z)] := hl
  have hl38 : (Cond.constantLong RX0 38 (268435456)).before #[Value.ref h, Value.long x, Value.long y, Value.long z] s = true := zw hts 1 rfl
  have hl49 : (Cond.constantLong RX0 49 (6)).before #[Value.ref h, Value.long x, Value.long y, Value.long z] s = true := zw hts 2 rfl
  refine lv_lload_n hx hb dX0_turn_0 rfl (lv_at hl 1 rfl) ?_
  refine lv_iconst (v := 1) hx hb dX0_turn_1 (by decide) ?_
  refine lv_lshr (v := sar x 1) hx hb dX0_turn_2 rfl ?_
  refine lv_lstore (lv' := [(7, .long (sar x 1)), (0, .ref h), (1, .long x), (3, .long y), (5, .long z)]) hx hb dX0_turn_3 hl (by decide) rfl (fun ls hl => ?_)
  refine lv_lload_n hx hb dX0_turn_5 rfl (lv_at hl 3 rfl) ?_
  refine lv_iconst (v := 1) hx hb dX0_turn_6 (by decide) ?_
  refine lv_lshr (v := sar y 1) hx hb dX0_turn_7 rfl ?_
  refine lv_lstore (lv' := [(9, .long (sar y 1)), (7, .long (sar x 1)), (0, .ref h), (1, .long x), (3, .long y), (5, .long z)]) hx hb dX0_turn_8 hl (by decide) rfl (fun ls hl => ?_)
  refine lv_lload hx hb dX0_turn_10 (lv_at hl 5 rfl) ?_
  refine lv_iconst (v := 1) hx hb dX0_turn_12 (by decide) ?_
  refine lv_lshr (v := sar z 1) hx hb dX0_turn_13 rfl ?_
  refine lv_lstore (lv' := [(11, .long (sar z 1)), (9, .long (sar y 1)), (7, .long (sar x 1)), (0, .ref h), (1, .long x), (3, .long y), (5, .long z)]) hx hb dX0_turn_14 hl (by decide) rfl (fun ls hl => ?_)
  refine lv_lload hx hb dX0_turn_16 (lv_at hl 2 rfl) ?_
  refine lv_lload hx hb dX0_turn_18 (lv_at hl 2 rfl) ?_
  refine lv_lmul hx hb dX0_turn_20 ?_
  refine lv_lload hx hb dX0_turn_21 (lv_at hl 1 rfl) ?_
  refine lv_lload hx hb dX0_turn_23 (lv_at hl 1 rfl) ?_
  refine lv_lmul hx hb dX0_turn_25 ?_
  refine lv_ladd hx hb dX0_turn_26 ?_
  refine lv_lload hx hb dX0_turn_27 (lv_at hl 0 rfl) ?_
  refine lv_lload hx hb dX0_turn_29 (lv_at hl 0 rfl) ?_
  refine lv_lmul hx hb dX0_turn_31 ?_
  refine lv_ladd hx hb dX0_turn_32 ?_
  refine lv_bipush (v := 28) hx hb dX0_turn_33 (by decide) ?_
  refine lv_lshr (v := sar ((((sar x 1) * (sar x 1)) + ((sar y 1) * (sar y 1))) + ((sar z 1) * (sar z 1))) 28) hx hb dX0_turn_35 rfl ?_
  refine lv_lstore (lv' := [(13, .long (sar ((((sar x 1) * (sar x 1)) + ((sar y 1) * (sar y 1))) + ((sar z 1) * (sar z 1))) 28)), (11, .long (sar z 1)), (9, .long (sar y 1)), (7, .long (sar x 1)), (0, .ref h), (1, .long x), (3, .long y), (5, .long z)]) hx hb dX0_turn_36 hl (by decide) rfl (fun ls hl => ?_)
  refine lv_aload_n hx hb dX0_turn_38 rfl (lv_at hl 4 rfl) ?_
  refine lv_ldc2 hx hb hown hl38 dX0_turn_39 ?_
  refine lv_lload hx hb dX0_turn_42 (lv_at hl 0 rfl) ?_
  refine lv_iconst (v := 1) hx hb dX0_turn_44 (by decide) ?_
  refine lv_lshr (v := sar (sar ((((sar x 1) * (sar x 1)) + ((sar y 1) * (sar y 1))) + ((sar z 1) * (sar z 1))) 28) 1) hx hb dX0_turn_45 rfl ?_
  refine lv_lsub hx hb dX0_turn_46 ?_
  refine lv_ldc2 hx hb hown hl38 dX0_turn_47 ?_
  refine lv_lload hx hb dX0_turn_50 (lv_at hl 0 rfl) ?_
  refine lv_ldc2 hx hb hown hl49 dX0_turn_52 ?_
  refine z_calll0 (wc := []) (wr := [(h, .inr (0, [.ref ap, .ref as1, .ref ai, .ref ar, .ref am])), (ap, zaJ k 4 fP), (as1, zaJ k 4 fS), (ai, zaJ k 4 fI), (ar, zaJ k 4 fR), (am, zaG k 3 (gr3 r0 r1 r2)), (r0, zaJ k 3 fM0), (r1, zaJ k 3 fM1), (r2, zaJ k 3 fM2)]) (va_runS (As := [.long (sar ((((sar x 1) * (sar x 1)) + ((sar y 1) * (sar y 1))) + ((sar z 1) * (sar z 1))) 28), .long 6]) (rest := [.long 268435456, .long (268435456 - (sar (sar ((((sar x 1) * (sar x 1)) + ((sar y 1) * (sar y 1))) + ((sar z 1) * (sar z 1))) 28) 1)), .ref h]) ⟨hx, hb, hml, hown, hts⟩ (c_J9_floorDiv_f86c9 l D k s.heap.size (sar ((((sar x 1) * (sar x 1)) + ((sar y 1) * (sar y 1))) + ((sar z 1) * (sar z 1))) 28) 6 (by decide)) (va_cwS 2 hts gX0_turn_J9_floorDiv_f86c9 rfl rfl rfl (by decide +kernel) ⟨Nat.le_of_ble_eq_true rfl, Nat.le_of_ble_eq_true rfl⟩) (z_preS (wc := []) hP hD hK [] rfl rfl zb0 zp0) rfl rfl hl.1 rfl (lv_room (Nat.le_of_ble_eq_true rfl)) dX0_turn_55 ⟨Nat.zero_le _, Nat.zero_le _⟩) hP hD hS hA [] [0, 1, 2, 3, 4, 5, 6, 7, 8] rfl rfl rfl (by decide) (fun w H locs hF hP hD hS => ?_)
  subst hF
  have hP : va_P D vwCl [(h, .inr (0, [.ref ap, .ref as1, .ref ai, .ref ar, .ref am])), (ap, zaJ k 4 fP), (as1, zaJ k 4 fS), (ai, zaJ k 4 fI), (ar, zaJ k 4 fR), (am, zaG k 3 (gr3 r0 r1 r2)), (r0, zaJ k 3 fM0), (r1, zaJ k 3 fM1), (r2, zaJ k 3 fM2)] H := hP
  have hD : va_D A [(h, .inr (0, [.ref ap, .ref as1, .ref ai, .ref ar, .ref am])), (ap, zaJ k 4 fP), (as1, zaJ k 4 fS), (ai, zaJ k 4 fI), (ar, zaJ k 4 fR), (am, zaG k 3 (gr3 r0 r1 r2)), (r0, zaJ k 3 fM0), (r1, zaJ k 3 fM1), (r2, zaJ k 3 fM2)] := hD
  refine lv_lsub hx hb dX0_turn_58 ?_
  refine lv_lload hx hb dX0_turn_59 (lv_at hl 3 rfl) ?_
  refine lv_lload hx hb dX0_turn_61 (lv_at hl 2 rfl) ?_
  refine lv_lload hx hb dX0_turn_63 (lv_at hl 1 rfl) ?_
  refine z_callv0 (wc := [(h, .inr (0, [.ref ap, .ref as1, .ref ai, .ref ar, .ref am])), (ap, zaJ k 4 fP), (as1, zaJ k 4 fS), (ai, zaJ k 4 fI), (ar, zaJ k 4 fR), (am, zaG k 3 (gr3 r0 r1 r2)), (r0, zaJ k 3 fM0), (r1, zaJ k 3 fM1), (r2, zaJ k 3 fM2)]) (wr := []) (va_runV (As := [.long (268435456 - (sar (sar ((((sar x 1) * (sar x 1)) + ((sar y 1) * (sar y 1))) + ((sar z 1) * (sar z 1))) 28) 1)), .long (268435456 - (fdiv (sar ((((sar x 1) * (sar x 1)) + ((sar y 1) * (sar y 1))) + ((sar z 1) * (sar z 1))) 28) 6)), .long (sar x 1), .long (sar y 1), .long (sar z 1)]) (rest := []) ⟨hx, hb, hml, hown, hts⟩ (c_X0_multiplyBy l D k H.size h ap as1 ai ar am r0 r1 r2 fP fS fI fR fM0 fM1 fM2 (268435456 - (sar (sar ((((sar x 1) * (sar x 1)) + ((sar y 1) * (sar y 1))) + ((sar z 1) * (sar z 1))) 28) 1)) (268435456 - (fdiv (sar ((((sar x 1) * (sar x 1)) + ((sar y 1) * (sar y 1))) + ((sar z 1) * (sar z 1))) 28) 6)) (sar x 1) (sar y 1) (sar z 1)) (cwV 5 hts gX0_turn_X0_multiplyBy rfl rfl rfl (by decide +kernel) ⟨Nat.le_of_ble_eq_true rfl, Nat.le_of_ble_eq_true rfl⟩) (z_preV (wc := [(h, .inr (0, [.ref ap, .ref as1, .ref ai, .ref ar, .ref am])), (ap, zaJ k 4 fP), (as1, zaJ k 4 fS), (ai, zaJ k 4 fI), (ar, zaJ k 4 fR), (am, zaG k 3 (gr3 r0 r1 r2)), (r0, zaJ k 3 fM0), (r1, zaJ k 3 fM1), (r2, zaJ k 3 fM2)]) 0 0 hP hD hK [0, 1, 2, 3, 4, 5, 6, 7, 8] rfl rfl rfl rfl zb0 zp0) rfl rfl hl.1 rfl (lv_room (Nat.le_of_ble_eq_true rfl)) dX0_turn_65 ⟨Nat.zero_le _, Nat.zero_le _⟩) hP hD hS hA [0, 1, 2, 3, 4, 5, 6, 7, 8] [] rfl rfl rfl (by decide) (fun w H locs hF hP hD hS => ?_)
  obtain ⟨fS2_1, fR2_2, rfl⟩ := hF
  have hP : va_P D vwCl [(h, .inr (0, [.ref ap, .ref as1, .ref ai, .ref ar, .ref am])), (ap, zaJ k 4 (qby fP (268435456 - (sar (sar ((((sar x 1) * (sar x 1)) + ((sar y 1) * (sar y 1))) + ((sar z 1) * (sar z 1))) 28) 1)) (268435456 - (fdiv (sar ((((sar x 1) * (sar x 1)) + ((sar y 1) * (sar y 1))) + ((sar z 1) * (sar z 1))) 28) 6)) (sar x 1) (sar y 1) (sar z 1))), (as1, zaJ k 4 fS2_1), (ai, zaJ k 4 fI), (ar, zaJ k 4 fR2_2), (am, zaG k 3 (gr3 r0 r1 r2)), (r0, zaJ k 3 (mrow0 (qby fP (268435456 - (sar (sar ((((sar x 1) * (sar x 1)) + ((sar y 1) * (sar y 1))) + ((sar z 1) * (sar z 1))) 28) 1)) (268435456 - (fdiv (sar ((((sar x 1) * (sar x 1)) + ((sar y 1) * (sar y 1))) + ((sar z 1) * (sar z 1))) 28) 6)) (sar x 1) (sar y 1) (sar z 1)))), (r1, zaJ k 3 (mrow1 (qby fP (268435456 - (sar (sar ((((sar x 1) * (sar x 1)) + ((sar y 1) * (sar y 1))) + ((sar z 1) * (sar z 1))) 28) 1)) (268435456 - (fdiv (sar ((((sar x 1) * (sar x 1)) + ((sar y 1) * (sar y 1))) + ((sar z 1) * (sar z 1))) 28) 6)) (sar x 1) (sar y 1) (sar z 1)))), (r2, zaJ k 3 (mrow2 (qby fP (268435456 - (sar (sar ((((sar x 1) * (sar x 1)) + ((sar y 1) * (sar y 1))) + ((sar z 1) * (sar z 1))) 28) 1)) (268435456 - (fdiv (sar ((((sar x 1) * (sar x 1)) + ((sar y 1) * (sar y 1))) + ((sar z 1) * (sar z 1))) 28) 6)) (sar x 1) (sar y 1) (sar z 1))))] H := hP
  have hD : va_D A [(h, .inr (0, [.ref ap, .ref as1, .ref ai, .ref ar, .ref am])), (ap, zaJ k 4 (qby fP (268435456 - (sar (sar ((((sar x 1) * (sar x 1)) + ((sar y 1) * (sar y 1))) + ((sar z 1) * (sar z 1))) 28) 1)) (268435456 - (fdiv (sar ((((sar x 1) * (sar x 1)) + ((sar y 1) * (sar y 1))) + ((sar z 1) * (sar z 1))) 28) 6)) (sar x 1) (sar y 1) (sar z 1))), (as1, zaJ k 4 fS2_1), (ai, zaJ k 4 fI), (ar, zaJ k 4 fR2_2), (am, zaG k 3 (gr3 r0 r1 r2)), (r0, zaJ k 3 (mrow0 (qby fP (268435456 - (sar (sar ((((sar x 1) * (sar x 1)) + ((sar y 1) * (sar y 1))) + ((sar z 1) * (sar z 1))) 28) 1)) (268435456 - (fdiv (sar ((((sar x 1) * (sar x 1)) + ((sar y 1) * (sar y 1))) + ((sar z 1) * (sar z 1))) 28) 6)) (sar x 1) (sar y 1) (sar z 1)))), (r1, zaJ k 3 (mrow1 (qby fP (268435456 - (sar (sar ((((sar x 1) * (sar x 1)) + ((sar y 1) * (sar y 1))) + ((sar z 1) * (sar z 1))) 28) 1)) (268435456 - (fdiv (sar ((((sar x 1) * (sar x 1)) + ((sar y 1) * (sar y 1))) + ((sar z 1) * (sar z 1))) 28) 6)) (sar x 1) (sar y 1) (sar z 1)))), (r2, zaJ k 3 (mrow2 (qby fP (268435456 - (sar (sar ((((sar x 1) * (sar x 1)) + ((sar y 1) * (sar y 1))) + ((sar z 1) * (sar z 1))) 28) 1)) (268435456 - (fdiv (sar ((((sar x 1) * (sar x 1)) + ((sar y 1) * (sar y 1))) + ((sar z 1) * (sar z 1))) 28) 6)) (sar x 1) (sar y 1) (sar z 1))))] := hD
  have hP := z_congJ hP 1 rfl (g := qturn fP x y z) (zall4 (by rfl) (by rfl) (by rfl) (by rfl)) (ws' := [(h, .inr (0, [.ref ap, .ref as1, .ref ai, .ref ar, .ref am])), (ap, zaJ k 4 (qturn fP x y z)), (as1, zaJ k 4 fS2_1), (ai, zaJ k 4 fI), (ar, zaJ k 4 fR2_2), (am, zaG k 3 (gr3 r0 r1 r2)), (r0, zaJ k 3 (mrow0 (qby fP (268435456 - (sar (sar ((((sar x 1) * (sar x 1)) + ((sar y 1) * (sar y 1))) + ((sar z 1) * (sar z 1))) 28) 1)) (268435456 - (fdiv (sar ((((sar x 1) * (sar x 1)) + ((sar y 1) * (sar y 1))) + ((sar z 1) * (sar z 1))) 28) 6)) (sar x 1) (sar y 1) (sar z 1)))), (r1, zaJ k 3 (mrow1 (qby fP (268435456 - (sar (sar ((((sar x 1) * (sar x 1)) + ((sar y 1) * (sar y 1))) + ((sar z 1) * (sar z 1))) 28) 1)) (268435456 - (fdiv (sar ((((sar x 1) * (sar x 1)) + ((sar y 1) * (sar y 1))) + ((sar z 1) * (sar z 1))) 28) 6)) (sar x 1) (sar y 1) (sar z 1)))), (r2, zaJ k 3 (mrow2 (qby fP (268435456 - (sar (sar ((((sar x 1) * (sar x 1)) + ((sar y 1) * (sar y 1))) + ((sar z 1) * (sar z 1))) 28) 1)) (268435456 - (fdiv (sar ((((sar x 1) * (sar x 1)) + ((sar y 1) * (sar y 1))) + ((sar z 1) * (sar z 1))) 28) 6)) (sar x 1) (sar y 1) (sar z 1))))]) rfl
  have hD := z_congDJ hD 1 rfl (g := qturn fP x y z) (ws' := [(h, .inr (0, [.ref ap, .ref as1, .ref ai, .ref ar, .ref am])), (ap, zaJ k 4 (qturn fP x y z)), (as1, zaJ k 4 fS2_1), (ai, zaJ k 4 fI), (ar, zaJ k 4 fR2_2), (am, zaG k 3 (gr3 r0 r1 r2)), (r0, zaJ k 3 (mrow0 (qby fP (268435456 - (sar (sar ((((sar x 1) * (sar x 1)) + ((sar y 1) * (sar y 1))) + ((sar z 1) * (sar z 1))) 28) 1)) (268435456 - (fdiv (sar ((((sar x 1) * (sar x 1)) + ((sar y 1) * (sar y 1))) + ((sar z 1) * (sar z 1))) 28) 6)) (sar x 1) (sar y 1) (sar z 1)))), (r1, zaJ k 3 (mrow1 (qby fP (268435456 - (sar (sar ((((sar x 1) * (sar x 1)) + ((sar y 1) * (sar y 1))) + ((sar z 1) * (sar z 1))) 28) 1)) (268435456 - (fdiv (sar ((((sar x 1) * (sar x 1)) + ((sar y 1) * (sar y 1))) + ((sar z 1) * (sar z 1))) 28) 6)) (sar x 1) (sar y 1) (sar z 1)))), (r2, zaJ k 3 (mrow2 (qby fP (268435456 - (sar (sar ((((sar x 1) * (sar x 1)) + ((sar y 1) * (sar y 1))) + ((sar z 1) * (sar z 1))) 28) 1)) (268435456 - (fdiv (sar ((((sar x 1) * (sar x 1)) + ((sar y 1) * (sar y 1))) + ((sar z 1) * (sar z 1))) 28) 6)) (sar x 1) (sar y 1) (sar z 1))))]) rfl
  have hP := z_congJ hP 6 rfl (g := mrow0 (qturn fP x y z)) (zall3 (by rfl) (by rfl) (by rfl)) (ws' := [(h, .inr (0, [.ref ap, .ref as1, .ref ai, .ref ar, .ref am])), (ap, zaJ k 4 (qturn fP x y z)), (as1, zaJ k 4 fS2_1), (ai, zaJ k 4 fI), (ar, zaJ k 4 fR2_2), (am, zaG k 3 (gr3 r0 r1 r2)), (r0, zaJ k 3 (mrow0 (qturn fP x y z))), (r1, zaJ k 3 (mrow1 (qby fP (268435456 - (sar (sar ((((sar x 1) * (sar x 1)) + ((sar y 1) * (sar y 1))) + ((sar z 1) * (sar z 1))) 28) 1)) (268435456 - (fdiv (sar ((((sar x 1) * (sar x 1)) + ((sar y 1) * (sar y 1))) + ((sar z 1) * (sar z 1))) 28) 6)) (sar x 1) (sar y 1) (sar z 1)))), (r2, zaJ k 3 (mrow2 (qby fP (268435456 - (sar (sar ((((sar x 1) * (sar x 1)) + ((sar y 1) * (sar y 1))) + ((sar z 1) * (sar z 1))) 28) 1)) (268435456 - (fdiv (sar ((((sar x 1) * (sar x 1)) + ((sar y 1) * (sar y 1))) + ((sar z 1) * (sar z 1))) 28) 6)) (sar x 1) (sar y 1) (sar z 1))))]) rfl
  have hD := z_congDJ hD 6 rfl (g := mrow0 (qturn fP x y z)) (ws' := [(h, .inr (0, [.ref ap, .ref as1, .ref ai, .ref ar, .ref am])), (ap, zaJ k 4 (qturn fP x y z)), (as1, zaJ k 4 fS2_1), (ai, zaJ k 4 fI), (ar, zaJ k 4 fR2_2), (am, zaG k 3 (gr3 r0 r1 r2)), (r0, zaJ k 3 (mrow0 (qturn fP x y z))), (r1, zaJ k 3 (mrow1 (qby fP (268435456 - (sar (sar ((((sar x 1) * (sar x 1)) + ((sar y 1) * (sar y 1))) + ((sar z 1) * (sar z 1))) 28) 1)) (268435456 - (fdiv (sar ((((sar x 1) * (sar x 1)) + ((sar y 1) * (sar y 1))) + ((sar z 1) * (sar z 1))) 28) 6)) (sar x 1) (sar y 1) (sar z 1)))), (r2, zaJ k 3 (mrow2 (qby fP (268435456 - (sar (sar ((((sar x 1) * (sar x 1)) + ((sar y 1) * (sar y 1))) + ((sar z 1) * (sar z 1))) 28) 1)) (268435456 - (fdiv (sar ((((sar x 1) * (sar x 1)) + ((sar y 1) * (sar y 1))) + ((sar z 1) * (sar z 1))) 28) 6)) (sar x 1) (sar y 1) (sar z 1))))]) rfl
  have hP := z_congJ hP 7 rfl (g := mrow1 (qturn fP x y z)) (zall3 (by rfl) (by rfl) (by rfl)) (ws' := [(h, .inr (0, [.ref ap, .ref as1, .ref ai, .ref ar, .ref am])), (ap, zaJ k 4 (qturn fP x y z)), (as1, zaJ k 4 fS2_1), (ai, zaJ k 4 fI), (ar, zaJ k 4 fR2_2), (am, zaG k 3 (gr3 r0 r1 r2)), (r0, zaJ k 3 (mrow0 (qturn fP x y z))), (r1, zaJ k 3 (mrow1 (qturn fP x y z))), (r2, zaJ k 3 (mrow2 (qby fP (268435456 - (sar (sar ((((sar x 1) * (sar x 1)) + ((sar y 1) * (sar y 1))) + ((sar z 1) * (sar z 1))) 28) 1)) (268435456 - (fdiv (sar ((((sar x 1) * (sar x 1)) + ((sar y 1) * (sar y 1))) + ((sar z 1) * (sar z 1))) 28) 6)) (sar x 1) (sar y 1) (sar z 1))))]) rfl
  have hD := z_congDJ hD 7 rfl (g := mrow1 (qturn fP x y z)) (ws' := [(h, .inr (0, [.ref ap, .ref as1, .ref ai, .ref ar, .ref am])), (ap, zaJ k 4 (qturn fP x y z)), (as1, zaJ k 4 fS2_1), (ai, zaJ k 4 fI), (ar, zaJ k 4 fR2_2), (am, zaG k 3 (gr3 r0 r1 r2)), (r0, zaJ k 3 (mrow0 (qturn fP x y z))), (r1, zaJ k 3 (mrow1 (qturn fP x y z))), (r2, zaJ k 3 (mrow2 (qby fP (268435456 - (sar (sar ((((sar x 1) * (sar x 1)) + ((sar y 1) * (sar y 1))) + ((sar z 1) * (sar z 1))) 28) 1)) (268435456 - (fdiv (sar ((((sar x 1) * (sar x 1)) + ((sar y 1) * (sar y 1))) + ((sar z 1) * (sar z 1))) 28) 6)) (sar x 1) (sar y 1) (sar z 1))))]) rfl
  have hP := z_congJ hP 8 rfl (g := mrow2 (qturn fP x y z)) (zall3 (by rfl) (by rfl) (by rfl)) (ws' := [(h, .inr (0, [.ref ap, .ref as1, .ref ai, .ref ar, .ref am])), (ap, zaJ k 4 (qturn fP x y z)), (as1, zaJ k 4 fS2_1), (ai, zaJ k 4 fI), (ar, zaJ k 4 fR2_2), (am, zaG k 3 (gr3 r0 r1 r2)), (r0, zaJ k 3 (mrow0 (qturn fP x y z))), (r1, zaJ k 3 (mrow1 (qturn fP x y z))), (r2, zaJ k 3 (mrow2 (qturn fP x y z)))]) rfl
  have hD := z_congDJ hD 8 rfl (g := mrow2 (qturn fP x y z)) (ws' := [(h, .inr (0, [.ref ap, .ref as1, .ref ai, .ref ar, .ref am])), (ap, zaJ k 4 (qturn fP x y z)), (as1, zaJ k 4 fS2_1), (ai, zaJ k 4 fI), (ar, zaJ k 4 fR2_2), (am, zaG k 3 (gr3 r0 r1 r2)), (r0, zaJ k 3 (mrow0 (qturn fP x y z))), (r1, zaJ k 3 (mrow1 (qturn fP x y z))), (r2, zaJ k 3 (mrow2 (qturn fP x y z)))]) rfl
  have hP9 := hP.sub (ws' := [(h, .inr (0, [.ref ap, .ref as1, .ref ai, .ref ar, .ref am])), (ap, zaJ k 4 (qturn fP x y z)), (as1, zaJ k 4 fS2_1), (ai, zaJ k 4 fI), (ar, zaJ k 4 fR2_2), (am, zaG k 3 (gr3 r0 r1 r2)), (r0, zaJ k 3 (mrow0 (qturn fP x y z))), (r1, zaJ k 3 (mrow1 (qturn fP x y z))), (r2, zaJ k 3 (mrow2 (qturn fP x y z)))]) [0, 1, 2, 3, 4, 5, 6, 7, 8] rfl
  have hD9 := hD.sub (ws' := [(h, .inr (0, [.ref ap, .ref as1, .ref ai, .ref ar, .ref am])), (ap, zaJ k 4 (qturn fP x y z)), (as1, zaJ k 4 fS2_1), (ai, zaJ k 4 fI), (ar, zaJ k 4 fR2_2), (am, zaG k 3 (gr3 r0 r1 r2)), (r0, zaJ k 3 (mrow0 (qturn fP x y z))), (r1, zaJ k 3 (mrow1 (qturn fP x y z))), (r2, zaJ k 3 (mrow2 (qturn fP x y z)))]) [0, 1, 2, 3, 4, 5, 6, 7, 8] (by decide) rfl
  exact W.vret hx hb hr (fun t9 ht9 hW9 => ⟨⟨[(h, .inr (0, [.ref ap, .ref as1, .ref ai, .ref ar, .ref am])), (ap, zaJ k 4 (qturn fP x y z)), (as1, zaJ k 4 fS2_1), (ai, zaJ k 4 fI), (ar, zaJ k 4 fR2_2), (am, zaG k 3 (gr3 r0 r1 r2)), (r0, zaJ k 3 (mrow0 (qturn fP x y z))), (r1, zaJ k 3 (mrow1 (qturn fP x y z))), (r2, zaJ k 3 (mrow2 (qturn fP x y z)))], rfl, ⟨fS2_1, fR2_2, rfl⟩, by rw [ht9]; exact hP9, hD9⟩, hS.F ht9⟩) hS.2.2 dX0_turn_68
set_option maxHeartbeats 4000000 in
set_option maxRecDepth 100000 in
theorem c_X0_turnCoarsely (l : Launch) (D : va_G) (k : Nat → ClassId) (sz : Nat) (h ap as1 ai ar am r0 r1 r2 : Nat) (fP fS fI fR fM0 fM1 fM2 : Nat → Int64) (x y z : Int64) : Met l yX0_turnCoarsely wsX0_turnCoarsely ({ frames := 2, cells := 0, slots := 0, locals := 58 } : Room) (va_Pc [.ref h, .long x, .long y, .long z] (zPre D k [(h, .inr (0, [.ref ap, .ref as1, .ref ai, .ref ar, .ref am])), (ap, zaJ k 4 fP), (as1, zaJ k 4 fS), (ai, zaJ k 4 fI), (ar, zaJ k 4 fR), (am, zaG k 3 (gr3 r0 r1 r2)), (r0, zaJ k 3 fM0), (r1, zaJ k 3 fM1), (r2, zaJ k 3 fM2)] sz zX0)) (zQv D [(h, .inr (0, [.ref ap, .ref as1, .ref ai, .ref ar, .ref am])), (ap, zaJ k 4 fP), (as1, zaJ k 4 fS), (ai, zaJ k 4 fI), (ar, zaJ k 4 fR), (am, zaG k 3 (gr3 r0 r1 r2)), (r0, zaJ k 3 fM0), (r1, zaJ k 3 fM1), (r2, zaJ k 3 fM2)] sz (fun w : va_W => ∃ (fS2 fR2 : Nat → Int64), w = [(h, .inr (0, [.ref ap, .ref as1, .ref ai, .ref ar, .ref am])), (ap, zaJ k 4 (qturnP fP x y z)), (as1, zaJ k 4 fS2), (ai, zaJ k 4 fI), (ar, zaJ k 4 fR2), (am, zaG k 3 (gr3 r0 r1 r2)), (r0, zaJ k 3 (mrow0 (qturnP fP x y z))), (r1, zaJ k 3 (mrow1 (qturnP fP x y z))), (r2, zaJ k 3 (mrow2 (qturnP fP x y z)))])) 0 0 (va_A [(h, .inr (0, [.ref ap, .ref as1, .ref ai, .ref ar, .ref am])), (ap, zaJ k 4 fP), (as1, zaJ k 4 fS), (ai, zaJ k 4 fI), (ar, zaJ k 4 fR), (am, zaG k 3 (gr3 r0 r1 r2)), (r0, zaJ k 3 fM0), (r1, zaJ k 3 fM1), (r2, zaJ k 3 fM2)] sz) := by
  refine Met.ofW (cc := cX0_turnCoarsely) (maxL := 7) (ret := none) (by decide) rfl ?_
  intro p e s m args below meth c s₁ B hml hv
  obtain ⟨rfl, hsz, hP, hK, hD0, hE⟩ := hv
  have hx := B.exec
  have hb := B.bytes
  have hr := B.returns
  have hts := atoms_spec (ws := wsX0_turnCoarsely) B.pre
  have hown : s.vm.findClass RX0 = some m.cls := findClass_of_methodNamed B.named
  have hlocks := B.notSynchronized
  subst hsz
  have hD := hD0.self (sz := s.heap.size)
  delta zQv zB
  generalize hAe : va_A [(h, .inr (0, [.ref ap, .ref as1, .ref ai, .ref ar, .ref am])), (ap, zaJ k 4 fP), (as1, zaJ k 4 fS), (ai, zaJ k 4 fI), (ar, zaJ k 4 fR), (am, zaG k 3 (gr3 r0 r1 r2)), (r0, zaJ k 3 fM0), (r1, zaJ k 3 fM1), (r2, zaJ k 3 fM2)] s.heap.size = A at hD hE ⊢
  have hA : ∀ q : Nat, s.heap.size ≤ q → A q := fun q h => by rw [← hAe]; exact Or.inr h
  have hS : va_S A s.heap s.heap [] := va_S.rf
  have hl := lv_entry [.ref h, .long x, .long y, .long z] (n := 7) (Nat.le_of_ble_eq_true rfl)
  rw [lg_entry_eq]
  generalize (lg_sl [.ref h, .long x, .long y, .long z] ++ List.replicate (7 - (lg_sl [.ref h, .long x, .long y, .long z]).length) Slot.unset).toArray = ls at hl ⊢
  have hl : lv_has ls 7 [(0, .ref h), (1, .long x), (3, .long y), (5, .long z)] := hl
  have hl38 : (Cond.constantLong RX0 38 (268435456)).before #[Value.ref h, Value.long x, Value.long y, Value.long z] s = true := zw hts 1 rfl
  refine lv_aload_n hx hb dX0_turnCoarsely_0 rfl (lv_at hl 0 rfl) ?_
  refine lv_ldc2 hx hb hown hl38 dX0_turnCoarsely_1 ?_
  refine lv_ldc2 hx hb hown hl38 dX0_turnCoarsely_4 ?_
  refine lv_lload_n hx hb dX0_turnCoarsely_7 rfl (lv_at hl 1 rfl) ?_
  refine lv_iconst (v := 1) hx hb dX0_turnCoarsely_8 (by decide) ?_
  refine lv_lshr (v := sar x 1) hx hb dX0_turnCoarsely_9 rfl ?_
  refine lv_lload_n hx hb dX0_turnCoarsely_10 rfl (lv_at hl 2 rfl) ?_
  refine lv_iconst (v := 1) hx hb dX0_turnCoarsely_11 (by decide) ?_
  refine lv_lshr (v := sar y 1) hx hb dX0_turnCoarsely_12 rfl ?_
  refine lv_lload hx hb dX0_turnCoarsely_13 (lv_at hl 3 rfl) ?_
  refine lv_iconst (v := 1) hx hb dX0_turnCoarsely_15 (by decide) ?_
  refine lv_lshr (v := sar z 1) hx hb dX0_turnCoarsely_16 rfl ?_
  refine z_callv0 (wc := [(h, .inr (0, [.ref ap, .ref as1, .ref ai, .ref ar, .ref am])), (ap, zaJ k 4 fP), (as1, zaJ k 4 fS), (ai, zaJ k 4 fI), (ar, zaJ k 4 fR), (am, zaG k 3 (gr3 r0 r1 r2)), (r0, zaJ k 3 fM0), (r1, zaJ k 3 fM1), (r2, zaJ k 3 fM2)]) (wr := []) (va_runV (As := [.long 268435456, .long 268435456, .long (sar x 1), .long (sar y 1), .long (sar z 1)]) (rest := []) ⟨hx, hb, hml, hown, hts⟩ (c_X0_multiplyBy l D k s.heap.size h ap as1 ai ar am r0 r1 r2 fP fS fI fR fM0 fM1 fM2 268435456 268435456 (sar x 1) (sar y 1) (sar z 1)) (cwV 5 hts gX0_turnCoarsely_X0_multiplyBy rfl rfl rfl (by decide +kernel) ⟨Nat.le_of_ble_eq_true rfl, Nat.le_of_ble_eq_true rfl⟩) (z_preV (wc := [(h, .inr (0, [.ref ap, .ref as1, .ref ai, .ref ar, .ref am])), (ap, zaJ k 4 fP), (as1, zaJ k 4 fS), (ai, zaJ k 4 fI), (ar, zaJ k 4 fR), (am, zaG k 3 (gr3 r0 r1 r2)), (r0, zaJ k 3 fM0), (r1, zaJ k 3 fM1), (r2, zaJ k 3 fM2)]) 0 0 hP hD hK [0, 1, 2, 3, 4, 5, 6, 7, 8] rfl rfl rfl rfl zb0 zp0) rfl rfl hl.1 rfl (lv_room (Nat.le_of_ble_eq_true rfl)) dX0_turnCoarsely_17 ⟨Nat.zero_le _, Nat.zero_le _⟩) hP hD hS hA [0, 1, 2, 3, 4, 5, 6, 7, 8] [] rfl rfl rfl (by decide) (fun w H locs hF hP hD hS => ?_)
  obtain ⟨fS2_1, fR2_2, rfl⟩ := hF
  have hP : va_P D vwCl [(h, .inr (0, [.ref ap, .ref as1, .ref ai, .ref ar, .ref am])), (ap, zaJ k 4 (qby fP 268435456 268435456 (sar x 1) (sar y 1) (sar z 1))), (as1, zaJ k 4 fS2_1), (ai, zaJ k 4 fI), (ar, zaJ k 4 fR2_2), (am, zaG k 3 (gr3 r0 r1 r2)), (r0, zaJ k 3 (mrow0 (qby fP 268435456 268435456 (sar x 1) (sar y 1) (sar z 1)))), (r1, zaJ k 3 (mrow1 (qby fP 268435456 268435456 (sar x 1) (sar y 1) (sar z 1)))), (r2, zaJ k 3 (mrow2 (qby fP 268435456 268435456 (sar x 1) (sar y 1) (sar z 1))))] H := hP
  have hD : va_D A [(h, .inr (0, [.ref ap, .ref as1, .ref ai, .ref ar, .ref am])), (ap, zaJ k 4 (qby fP 268435456 268435456 (sar x 1) (sar y 1) (sar z 1))), (as1, zaJ k 4 fS2_1), (ai, zaJ k 4 fI), (ar, zaJ k 4 fR2_2), (am, zaG k 3 (gr3 r0 r1 r2)), (r0, zaJ k 3 (mrow0 (qby fP 268435456 268435456 (sar x 1) (sar y 1) (sar z 1)))), (r1, zaJ k 3 (mrow1 (qby fP 268435456 268435456 (sar x 1) (sar y 1) (sar z 1)))), (r2, zaJ k 3 (mrow2 (qby fP 268435456 268435456 (sar x 1) (sar y 1) (sar z 1))))] := hD
  have hP := z_congJ hP 1 rfl (g := qturnP fP x y z) (zall4 (by rfl) (by rfl) (by rfl) (by rfl)) (ws' := [(h, .inr (0, [.ref ap, .ref as1, .ref ai, .ref ar, .ref am])), (ap, zaJ k 4 (qturnP fP x y z)), (as1, zaJ k 4 fS2_1), (ai, zaJ k 4 fI), (ar, zaJ k 4 fR2_2), (am, zaG k 3 (gr3 r0 r1 r2)), (r0, zaJ k 3 (mrow0 (qby fP 268435456 268435456 (sar x 1) (sar y 1) (sar z 1)))), (r1, zaJ k 3 (mrow1 (qby fP 268435456 268435456 (sar x 1) (sar y 1) (sar z 1)))), (r2, zaJ k 3 (mrow2 (qby fP 268435456 268435456 (sar x 1) (sar y 1) (sar z 1))))]) rfl
  have hD := z_congDJ hD 1 rfl (g := qturnP fP x y z) (ws' := [(h, .inr (0, [.ref ap, .ref as1, .ref ai, .ref ar, .ref am])), (ap, zaJ k 4 (qturnP fP x y z)), (as1, zaJ k 4 fS2_1), (ai, zaJ k 4 fI), (ar, zaJ k 4 fR2_2), (am, zaG k 3 (gr3 r0 r1 r2)), (r0, zaJ k 3 (mrow0 (qby fP 268435456 268435456 (sar x 1) (sar y 1) (sar z 1)))), (r1, zaJ k 3 (mrow1 (qby fP 268435456 268435456 (sar x 1) (sar y 1) (sar z 1)))), (r2, zaJ k 3 (mrow2 (qby fP 268435456 268435456 (sar x 1) (sar y 1) (sar z 1))))]) rfl
  have hP := z_congJ hP 6 rfl (g := mrow0 (qturnP fP x y z)) (zall3 (by rfl) (by rfl) (by rfl)) (ws' := [(h, .inr (0, [.ref ap, .ref as1, .ref ai, .ref ar, .ref am])), (ap, zaJ k 4 (qturnP fP x y z)), (as1, zaJ k 4 fS2_1), (ai, zaJ k 4 fI), (ar, zaJ k 4 fR2_2), (am, zaG k 3 (gr3 r0 r1 r2)), (r0, zaJ k 3 (mrow0 (qturnP fP x y z))), (r1, zaJ k 3 (mrow1 (qby fP 268435456 268435456 (sar x 1) (sar y 1) (sar z 1)))), (r2, zaJ k 3 (mrow2 (qby fP 268435456 268435456 (sar x 1) (sar y 1) (sar z 1))))]) rfl
  have hD := z_congDJ hD 6 rfl (g := mrow0 (qturnP fP x y z)) (ws' := [(h, .inr (0, [.ref ap, .ref as1, .ref ai, .ref ar, .ref am])), (ap, zaJ k 4 (qturnP fP x y z)), (as1, zaJ k 4 fS2_1), (ai, zaJ k 4 fI), (ar, zaJ k 4 fR2_2), (am, zaG k 3 (gr3 r0 r1 r2)), (r0, zaJ k 3 (mrow0 (qturnP fP x y z))), (r1, zaJ k 3 (mrow1 (qby fP 268435456 268435456 (sar x 1) (sar y 1) (sar z 1)))), (r2, zaJ k 3 (mrow2 (qby fP 268435456 268435456 (sar x 1) (sar y 1) (sar z 1))))]) rfl
  have hP := z_congJ hP 7 rfl (g := mrow1 (qturnP fP x y z)) (zall3 (by rfl) (by rfl) (by rfl)) (ws' := [(h, .inr (0, [.ref ap, .ref as1, .ref ai, .ref ar, .ref am])), (ap, zaJ k 4 (qturnP fP x y z)), (as1, zaJ k 4 fS2_1), (ai, zaJ k 4 fI), (ar, zaJ k 4 fR2_2), (am, zaG k 3 (gr3 r0 r1 r2)), (r0, zaJ k 3 (mrow0 (qturnP fP x y z))), (r1, zaJ k 3 (mrow1 (qturnP fP x y z))), (r2, zaJ k 3 (mrow2 (qby fP 268435456 268435456 (sar x 1) (sar y 1) (sar z 1))))]) rfl
  have hD := z_congDJ hD 7 rfl (g := mrow1 (qturnP fP x y z)) (ws' := [(h, .inr (0, [.ref ap, .ref as1, .ref ai, .ref ar, .ref am])), (ap, zaJ k 4 (qturnP fP x y z)), (as1, zaJ k 4 fS2_1), (ai, zaJ k 4 fI), (ar, zaJ k 4 fR2_2), (am, zaG k 3 (gr3 r0 r1 r2)), (r0, zaJ k 3 (mrow0 (qturnP fP x y z))), (r1, zaJ k 3 (mrow1 (qturnP fP x y z))), (r2, zaJ k 3 (mrow2 (qby fP 268435456 268435456 (sar x 1) (sar y 1) (sar z 1))))]) rfl
  have hP := z_congJ hP 8 rfl (g := mrow2 (qturnP fP x y z)) (zall3 (by rfl) (by rfl) (by rfl)) (ws' := [(h, .inr (0, [.ref ap, .ref as1, .ref ai, .ref ar, .ref am])), (ap, zaJ k 4 (qturnP fP x y z)), (as1, zaJ k 4 fS2_1), (ai, zaJ k 4 fI), (ar, zaJ k 4 fR2_2), (am, zaG k 3 (gr3 r0 r1 r2)), (r0, zaJ k 3 (mrow0 (qturnP fP x y z))), (r1, zaJ k 3 (mrow1 (qturnP fP x y z))), (r2, zaJ k 3 (mrow2 (qturnP fP x y z)))]) rfl
  have hD := z_congDJ hD 8 rfl (g := mrow2 (qturnP fP x y z)) (ws' := [(h, .inr (0, [.ref ap, .ref as1, .ref ai, .ref ar, .ref am])), (ap, zaJ k 4 (qturnP fP x y z)), (as1, zaJ k 4 fS2_1), (ai, zaJ k 4 fI), (ar, zaJ k 4 fR2_2), (am, zaG k 3 (gr3 r0 r1 r2)), (r0, zaJ k 3 (mrow0 (qturnP fP x y z))), (r1, zaJ k 3 (mrow1 (qturnP fP x y z))), (r2, zaJ k 3 (mrow2 (qturnP fP x y z)))]) rfl
  have hP9 := hP.sub (ws' := [(h, .inr (0, [.ref ap, .ref as1, .ref ai, .ref ar, .ref am])), (ap, zaJ k 4 (qturnP fP x y z)), (as1, zaJ k 4 fS2_1), (ai, zaJ k 4 fI), (ar, zaJ k 4 fR2_2), (am, zaG k 3 (gr3 r0 r1 r2)), (r0, zaJ k 3 (mrow0 (qturnP fP x y z))), (r1, zaJ k 3 (mrow1 (qturnP fP x y z))), (r2, zaJ k 3 (mrow2 (qturnP fP x y z)))]) [0, 1, 2, 3, 4, 5, 6, 7, 8] rfl
  have hD9 := hD.sub (ws' := [(h, .inr (0, [.ref ap, .ref as1, .ref ai, .ref ar, .ref am])), (ap, zaJ k 4 (qturnP fP x y z)), (as1, zaJ k 4 fS2_1), (ai, zaJ k 4 fI), (ar, zaJ k 4 fR2_2), (am, zaG k 3 (gr3 r0 r1 r2)), (r0, zaJ k 3 (mrow0 (qturnP fP x y z))), (r1, zaJ k 3 (mrow1 (qturnP fP x y z))), (r2, zaJ k 3 (mrow2 (qturnP fP x y z)))]) [0, 1, 2, 3, 4, 5, 6, 7, 8] (by decide) rfl
  exact W.vret hx hb hr (fun t9 ht9 hW9 => ⟨⟨[(h, .inr (0, [.ref ap, .ref as1, .ref ai, .ref ar, .ref am])), (ap, zaJ k 4 (qturnP fP x y z)), (as1, zaJ k 4 fS2_1), (ai, zaJ k 4 fI), (ar, zaJ k 4 fR2_2), (am, zaG k 3 (gr3 r0 r1 r2)), (r0, zaJ k 3 (mrow0 (qturnP fP x y z))), (r1, zaJ k 3 (mrow1 (qturnP fP x y z))), (r2, zaJ k 3 (mrow2 (qturnP fP x y z)))], rfl, ⟨fS2_1, fR2_2, rfl⟩, by rw [ht9]; exact hP9, hD9⟩, hS.F ht9⟩) hS.2.2 dX0_turnCoarsely_20
set_option maxHeartbeats 4000000 in
set_option maxRecDepth 100000 in
theorem c_X0_align (l : Launch) (D : va_G) (k : Nat → ClassId) (sz : Nat) (h ap as1 ai ar am r0 r1 r2 : Nat) (fP fM0 fM1 fM2 : Nat → Int64) : Met l yX0_align wsX0_align ({ frames := 1, cells := 0, slots := 0, locals := 28 } : Room) (va_Pc [.ref h] (zPre D k [(h, .inr (0, [.ref ap, .ref as1, .ref ai, .ref ar, .ref am])), (ap, zaJ k 4 fP), (am, zaG k 3 (gr3 r0 r1 r2)), (r0, zaJ k 3 fM0), (r1, zaJ k 3 fM1), (r2, zaJ k 3 fM2)] sz zX0)) (zQv D [(h, .inr (0, [.ref ap, .ref as1, .ref ai, .ref ar, .ref am])), (ap, zaJ k 4 fP), (am, zaG k 3 (gr3 r0 r1 r2)), (r0, zaJ k 3 fM0), (r1, zaJ k 3 fM1), (r2, zaJ k 3 fM2)] sz (fun w : va_W => w = [(h, .inr (0, [.ref ap, .ref as1, .ref ai, .ref ar, .ref am])), (ap, zaJ k 4 qone), (am, zaG k 3 (gr3 r0 r1 r2)), (r0, zaJ k 3 (mrow0 qone)), (r1, zaJ k 3 (mrow1 qone)), (r2, zaJ k 3 (mrow2 qone))])) 0 0 (va_A [(h, .inr (0, [.ref ap, .ref as1, .ref ai, .ref ar, .ref am])), (ap, zaJ k 4 fP), (am, zaG k 3 (gr3 r0 r1 r2)), (r0, zaJ k 3 fM0), (r1, zaJ k 3 fM1), (r2, zaJ k 3 fM2)] sz) := by
  refine Met.ofW (cc := cX0_align) (maxL := 1) (ret := none) (by decide) rfl ?_
  intro p e s m args below meth c s₁ B hml hv
  obtain ⟨rfl, hsz, hP, hK, hD0, hE⟩ := hv
  have hx := B.exec
  have hb := B.bytes
  have hr := B.returns
  have hts := atoms_spec (ws := wsX0_align) B.pre
  have hown : s.vm.findClass RX0 = some m.cls := findClass_of_methodNamed B.named
  have hlocks := B.notSynchronized
  subst hsz
  have hD := hD0.self (sz := s.heap.size)
  delta zQv zB
  generalize hAe : va_A [(h, .inr (0, [.ref ap, .ref as1, .ref ai, .ref ar, .ref am])), (ap, zaJ k 4 fP), (am, zaG k 3 (gr3 r0 r1 r2)), (r0, zaJ k 3 fM0), (r1, zaJ k 3 fM1), (r2, zaJ k 3 fM2)] s.heap.size = A at hD hE ⊢
  have hA : ∀ q : Nat, s.heap.size ≤ q → A q := fun q h => by rw [← hAe]; exact Or.inr h
  have hS : va_S A s.heap s.heap [] := va_S.rf
  have hl := lv_entry [.ref h] (n := 1) (Nat.le_of_ble_eq_true rfl)
  rw [lg_entry_eq]
  generalize (lg_sl [.ref h] ++ List.replicate (1 - (lg_sl [.ref h]).length) Slot.unset).toArray = ls at hl ⊢
  have hl : lv_has ls 1 [(0, .ref h)] := hl
  have hl9 : (Cond.fieldLink RX0 9 "InertialReference$Attitude" "parts" "[J").before #[Value.ref h] s = true := zw hts 1 rfl
  have hinX0 : ∀ w ∈ u_ws RX0 TX0 5, w ∈ wsX0_align := fun w h => List.mem_cons_of_mem _ (List.mem_append_right _ h)
  have hl38 : (Cond.constantLong RX0 38 (268435456)).before #[Value.ref h] s = true := zw hts 2 rfl
  refine lv_aload_n hx hb dX0_align_0 rfl (lv_at hl 0 rfl) ?_
  refine va_get (D := D) (ci := 0) (v := .ref ap) (C := RX0) (T := TX0) (N := 5) hx hb hts hinX0 hown hK hP 0 rfl rfl 0 (Nat.le_of_ble_eq_true rfl) hl9 (fun _ h9 => h9) rfl dX0_align_1 ?_
  refine lv_lconst (v := 0) hx hb dX0_align_4 (by decide) ?_
  refine z_callv0 (wc := [(ap, zaJ k 4 fP)]) (wr := [(h, .inr (0, [.ref ap, .ref as1, .ref ai, .ref ar, .ref am])), (am, zaG k 3 (gr3 r0 r1 r2)), (r0, zaJ k 3 fM0), (r1, zaJ k 3 fM1), (r2, zaJ k 3 fM2)]) (va_runS (As := [.ref ap, .long 0]) (rest := []) ⟨hx, hb, hml, hown, hts⟩ (c_J7_fill_d0a16 l D k s.heap.size ap 4 fP 0 (by decide)) (va_cwS 2 hts gX0_align_J7_fill_d0a16 rfl rfl rfl (by decide +kernel) ⟨Nat.le_of_ble_eq_true rfl, Nat.le_of_ble_eq_true rfl⟩) (z_preS (wc := [(ap, zaJ k 4 fP)]) hP hD hK [1] rfl rfl zb0 zp0) rfl rfl hl.1 rfl (lv_room (Nat.le_of_ble_eq_true rfl)) dX0_align_5 ⟨Nat.zero_le _, Nat.zero_le _⟩) hP hD hS hA [1] [0, 2, 3, 4, 5] rfl rfl rfl (by decide) (fun w H locs hF hP hD hS => ?_)
  subst hF
  have hP : va_P D vwCl [(h, .inr (0, [.ref ap, .ref as1, .ref ai, .ref ar, .ref am])), (am, zaG k 3 (gr3 r0 r1 r2)), (r0, zaJ k 3 fM0), (r1, zaJ k 3 fM1), (r2, zaJ k 3 fM2), (ap, zaJ k 4 (zfill fP 0 4))] H := hP
  have hD : va_D A [(h, .inr (0, [.ref ap, .ref as1, .ref ai, .ref ar, .ref am])), (am, zaG k 3 (gr3 r0 r1 r2)), (r0, zaJ k 3 fM0), (r1, zaJ k 3 fM1), (r2, zaJ k 3 fM2), (ap, zaJ k 4 (zfill fP 0 4))] := hD
  refine lv_aload_n hx hb dX0_align_8 rfl (lv_at hl 0 rfl) ?_
  refine va_get (D := D) (ci := 0) (v := .ref ap) (C := RX0) (T := TX0) (N := 5) hx hb hts hinX0 hown hK hP 0 rfl rfl 0 (Nat.le_of_ble_eq_true rfl) hl9 (fun _ h9 => h9) rfl dX0_align_9 ?_
  refine lv_iconst (v := 0) hx hb dX0_align_12 (by decide) ?_
  refine lv_ldc2 hx hb hown hl38 dX0_align_13 ?_
  refine z_last hx hb hK hP hD hS 5 rfl 0 zx0 (by decide) (ws' := [(h, .inr (0, [.ref ap, .ref as1, .ref ai, .ref ar, .ref am])), (am, zaG k 3 (gr3 r0 r1 r2)), (r0, zaJ k 3 fM0), (r1, zaJ k 3 fM1), (r2, zaJ k 3 fM2), (ap, zaJ k 4 (vp_updL (zfill fP 0 4) 0 268435456))]) rfl dX0_align_16 (fun H locs hP hD hS => ?_)
  have hP := z_congJ hP 5 rfl (g := qone) (zall4 rfl rfl rfl rfl) (ws' := [(h, .inr (0, [.ref ap, .ref as1, .ref ai, .ref ar, .ref am])), (am, zaG k 3 (gr3 r0 r1 r2)), (r0, zaJ k 3 fM0), (r1, zaJ k 3 fM1), (r2, zaJ k 3 fM2), (ap, zaJ k 4 qone)]) rfl
  have hD := z_congDJ hD 5 rfl (g := qone) (ws' := [(h, .inr (0, [.ref ap, .ref as1, .ref ai, .ref ar, .ref am])), (am, zaG k 3 (gr3 r0 r1 r2)), (r0, zaJ k 3 fM0), (r1, zaJ k 3 fM1), (r2, zaJ k 3 fM2), (ap, zaJ k 4 qone)]) rfl
  refine lv_aload_n hx hb dX0_align_17 rfl (lv_at hl 0 rfl) ?_
  refine z_callv0 (wc := [(h, .inr (0, [.ref ap, .ref as1, .ref ai, .ref ar, .ref am])), (ap, zaJ k 4 qone), (am, zaG k 3 (gr3 r0 r1 r2)), (r0, zaJ k 3 fM0), (r1, zaJ k 3 fM1), (r2, zaJ k 3 fM2)]) (wr := []) (va_runV (As := []) (rest := []) ⟨hx, hb, hml, hown, hts⟩ (c_X0_makeMatrix l D k H.size h ap as1 ai ar am r0 r1 r2 qone fM0 fM1 fM2) (cwV 0 hts gX0_align_X0_makeMatrix rfl rfl rfl (by decide +kernel) ⟨Nat.le_of_ble_eq_true rfl, Nat.le_of_ble_eq_true rfl⟩) (z_preV (wc := [(h, .inr (0, [.ref ap, .ref as1, .ref ai, .ref ar, .ref am])), (ap, zaJ k 4 qone), (am, zaG k 3 (gr3 r0 r1 r2)), (r0, zaJ k 3 fM0), (r1, zaJ k 3 fM1), (r2, zaJ k 3 fM2)]) 0 0 hP hD hK [0, 5, 1, 2, 3, 4] rfl rfl rfl rfl zb0 zp0) rfl rfl hl.1 rfl (lv_room (Nat.le_of_ble_eq_true rfl)) dX0_align_18 ⟨Nat.zero_le _, Nat.zero_le _⟩) hP hD hS hA [0, 5, 1, 2, 3, 4] [] rfl rfl rfl (by decide) (fun w H locs hF hP hD hS => ?_)
  subst hF
  have hP : va_P D vwCl [(h, .inr (0, [.ref ap, .ref as1, .ref ai, .ref ar, .ref am])), (ap, zaJ k 4 qone), (am, zaG k 3 (gr3 r0 r1 r2)), (r0, zaJ k 3 (mrow0 qone)), (r1, zaJ k 3 (mrow1 qone)), (r2, zaJ k 3 (mrow2 qone))] H := hP
  have hD : va_D A [(h, .inr (0, [.ref ap, .ref as1, .ref ai, .ref ar, .ref am])), (ap, zaJ k 4 qone), (am, zaG k 3 (gr3 r0 r1 r2)), (r0, zaJ k 3 (mrow0 qone)), (r1, zaJ k 3 (mrow1 qone)), (r2, zaJ k 3 (mrow2 qone))] := hD
  have hP9 := hP.sub (ws' := [(h, .inr (0, [.ref ap, .ref as1, .ref ai, .ref ar, .ref am])), (ap, zaJ k 4 qone), (am, zaG k 3 (gr3 r0 r1 r2)), (r0, zaJ k 3 (mrow0 qone)), (r1, zaJ k 3 (mrow1 qone)), (r2, zaJ k 3 (mrow2 qone))]) [0, 1, 2, 3, 4, 5] rfl
  have hD9 := hD.sub (ws' := [(h, .inr (0, [.ref ap, .ref as1, .ref ai, .ref ar, .ref am])), (ap, zaJ k 4 qone), (am, zaG k 3 (gr3 r0 r1 r2)), (r0, zaJ k 3 (mrow0 qone)), (r1, zaJ k 3 (mrow1 qone)), (r2, zaJ k 3 (mrow2 qone))]) [0, 1, 2, 3, 4, 5] (by decide) rfl
  exact W.vret hx hb hr (fun t9 ht9 hW9 => ⟨⟨[(h, .inr (0, [.ref ap, .ref as1, .ref ai, .ref ar, .ref am])), (ap, zaJ k 4 qone), (am, zaG k 3 (gr3 r0 r1 r2)), (r0, zaJ k 3 (mrow0 qone)), (r1, zaJ k 3 (mrow1 qone)), (r2, zaJ k 3 (mrow2 qone))], rfl, rfl, by rw [ht9]; exact hP9, hD9⟩, hS.F ht9⟩) hS.2.2 dX0_align_21
set_option maxHeartbeats 4000000 in
set_option maxRecDepth 100000 in
theorem c_X0_set (l : Launch) (D : va_G) (k : Nat → ClassId) (sz : Nat) (h ap as1 ai ar am r0 r1 r2 : Nat) (ho : Nat) (fP fM0 fM1 fM2 fo : Nat → Int64) : Met l yX0_set wsX0_set ({ frames := 1, cells := 0, slots := 0, locals := 28 } : Room) (va_Pc [.ref h, .ref ho] (zPre D k [(h, .inr (0, [.ref ap, .ref as1, .ref ai, .ref ar, .ref am])), (ap, zaJ k 4 fP), (am, zaG k 3 (gr3 r0 r1 r2)), (r0, zaJ k 3 fM0), (r1, zaJ k 3 fM1), (r2, zaJ k 3 fM2), (ho, zaJ k 4 fo)] sz zX0)) (zQv D [(h, .inr (0, [.ref ap, .ref as1, .ref ai, .ref ar, .ref am])), (ap, zaJ k 4 fP), (am, zaG k 3 (gr3 r0 r1 r2)), (r0, zaJ k 3 fM0), (r1, zaJ k 3 fM1), (r2, zaJ k 3 fM2), (ho, zaJ k 4 fo)] sz (fun w : va_W => w = [(h, .inr (0, [.ref ap, .ref as1, .ref ai, .ref ar, .ref am])), (ap, zaJ k 4 fo), (am, zaG k 3 (gr3 r0 r1 r2)), (r0, zaJ k 3 (mrow0 fo)), (r1, zaJ k 3 (mrow1 fo)), (r2, zaJ k 3 (mrow2 fo)), (ho, zaJ k 4 fo)])) 0 0 (va_A [(h, .inr (0, [.ref ap, .ref as1, .ref ai, .ref ar, .ref am])), (ap, zaJ k 4 fP), (am, zaG k 3 (gr3 r0 r1 r2)), (r0, zaJ k 3 fM0), (r1, zaJ k 3 fM1), (r2, zaJ k 3 fM2), (ho, zaJ k 4 fo)] sz) := by
  refine Met.ofW (cc := cX0_set) (maxL := 2) (ret := none) (by decide) rfl ?_
  intro p e s m args below meth c s₁ B hml hv
  obtain ⟨rfl, hsz, hP, hK, hD0, hE⟩ := hv
  have hx := B.exec
  have hb := B.bytes
  have hr := B.returns
  have hts := atoms_spec (ws := wsX0_set) B.pre
  have hown : s.vm.findClass RX0 = some m.cls := findClass_of_methodNamed B.named
  have hlocks := B.notSynchronized
  subst hsz
  have hD := hD0.self (sz := s.heap.size)
  delta zQv zB
  generalize hAe : va_A [(h, .inr (0, [.ref ap, .ref as1, .ref ai, .ref ar, .ref am])), (ap, zaJ k 4 fP), (am, zaG k 3 (gr3 r0 r1 r2)), (r0, zaJ k 3 fM0), (r1, zaJ k 3 fM1), (r2, zaJ k 3 fM2), (ho, zaJ k 4 fo)] s.heap.size = A at hD hE ⊢
  have hA : ∀ q : Nat, s.heap.size ≤ q → A q := fun q h => by rw [← hAe]; exact Or.inr h
  have hS : va_S A s.heap s.heap [] := va_S.rf
  have hl := lv_entry [.ref h, .ref ho] (n := 2) (Nat.le_of_ble_eq_true rfl)
  rw [lg_entry_eq]
  generalize (lg_sl [.ref h, .ref ho] ++ List.replicate (2 - (lg_sl [.ref h, .ref ho]).length) Slot.unset).toArray = ls at hl ⊢
  have hl : lv_has ls 2 [(0, .ref h), (1, .ref ho)] := hl
  have hl9 : (Cond.fieldLink RX0 9 "InertialReference$Attitude" "parts" "[J").before #[Value.ref h, Value.ref ho] s = true := zw hts 1 rfl
  have hinX0 : ∀ w ∈ u_ws RX0 TX0 5, w ∈ wsX0_set := fun w h => List.mem_cons_of_mem _ (List.mem_append_right _ h)
  refine lv_aload_n hx hb dX0_set_0 rfl (lv_at hl 1 rfl) ?_
  refine lv_iconst (v := 0) hx hb dX0_set_1 (by decide) ?_
  refine lv_aload_n hx hb dX0_set_2 rfl (lv_at hl 0 rfl) ?_
  refine va_get (D := D) (ci := 0) (v := .ref ap) (C := RX0) (T := TX0) (N := 5) hx hb hts hinX0 hown hK hP 0 rfl rfl 0 (Nat.le_of_ble_eq_true rfl) hl9 (fun _ h9 => h9) rfl dX0_set_3 ?_
  refine lv_iconst (v := 0) hx hb dX0_set_6 (by decide) ?_
  refine lv_iconst (v := 4) hx hb dX0_set_7 (by decide) ?_
  refine z_copyl hx hb (hml.trans hl.1.symm) hown (zw hts 2 rfl) (zw hts 3 rfl) (zw hts 4 rfl) (zw hts 5 rfl) hK hP hD hS 6 1 rfl rfl 0 0 4 zx0 zx0 zx4 (by omega) (by omega) (ws' := [(h, .inr (0, [.ref ap, .ref as1, .ref ai, .ref ar, .ref am])), (ap, zaJ k 4 (va_cpy fo fP 0 0 4)), (am, zaG k 3 (gr3 r0 r1 r2)), (r0, zaJ k 3 fM0), (r1, zaJ k 3 fM1), (r2, zaJ k 3 fM2), (ho, zaJ k 4 fo)]) rfl (Nat.le_of_ble_eq_true rfl) (Nat.le_of_ble_eq_true rfl) dX0_set_8 (fun H locs hP hD hS => ?_)
  have hP := z_congJ hP 1 rfl (g := fo) (zall4 rfl rfl rfl rfl) (ws' := [(h, .inr (0, [.ref ap, .ref as1, .ref ai, .ref ar, .ref am])), (ap, zaJ k 4 fo), (am, zaG k 3 (gr3 r0 r1 r2)), (r0, zaJ k 3 fM0), (r1, zaJ k 3 fM1), (r2, zaJ k 3 fM2), (ho, zaJ k 4 fo)]) rfl
  have hD := z_congDJ hD 1 rfl (g := fo) (ws' := [(h, .inr (0, [.ref ap, .ref as1, .ref ai, .ref ar, .ref am])), (ap, zaJ k 4 fo), (am, zaG k 3 (gr3 r0 r1 r2)), (r0, zaJ k 3 fM0), (r1, zaJ k 3 fM1), (r2, zaJ k 3 fM2), (ho, zaJ k 4 fo)]) rfl
  refine lv_aload_n hx hb dX0_set_11 rfl (lv_at hl 0 rfl) ?_
  refine z_callv0 (wc := [(h, .inr (0, [.ref ap, .ref as1, .ref ai, .ref ar, .ref am])), (ap, zaJ k 4 fo), (am, zaG k 3 (gr3 r0 r1 r2)), (r0, zaJ k 3 fM0), (r1, zaJ k 3 fM1), (r2, zaJ k 3 fM2)]) (wr := [(ho, zaJ k 4 fo)]) (va_runV (As := []) (rest := []) ⟨hx, hb, hml, hown, hts⟩ (c_X0_makeMatrix l D k H.size h ap as1 ai ar am r0 r1 r2 fo fM0 fM1 fM2) (cwV 0 hts gX0_set_X0_makeMatrix rfl rfl rfl (by decide +kernel) ⟨Nat.le_of_ble_eq_true rfl, Nat.le_of_ble_eq_true rfl⟩) (z_preV (wc := [(h, .inr (0, [.ref ap, .ref as1, .ref ai, .ref ar, .ref am])), (ap, zaJ k 4 fo), (am, zaG k 3 (gr3 r0 r1 r2)), (r0, zaJ k 3 fM0), (r1, zaJ k 3 fM1), (r2, zaJ k 3 fM2)]) 0 0 hP hD hK [0, 1, 2, 3, 4, 5] rfl rfl rfl rfl zb0 zp0) rfl rfl hl.1 rfl (lv_room (Nat.le_of_ble_eq_true rfl)) dX0_set_12 ⟨Nat.zero_le _, Nat.zero_le _⟩) hP hD hS hA [0, 1, 2, 3, 4, 5] [6] rfl rfl rfl (by decide) (fun w H locs hF hP hD hS => ?_)
  subst hF
  have hP : va_P D vwCl [(ho, zaJ k 4 fo), (h, .inr (0, [.ref ap, .ref as1, .ref ai, .ref ar, .ref am])), (ap, zaJ k 4 fo), (am, zaG k 3 (gr3 r0 r1 r2)), (r0, zaJ k 3 (mrow0 fo)), (r1, zaJ k 3 (mrow1 fo)), (r2, zaJ k 3 (mrow2 fo))] H := hP
  have hD : va_D A [(ho, zaJ k 4 fo), (h, .inr (0, [.ref ap, .ref as1, .ref ai, .ref ar, .ref am])), (ap, zaJ k 4 fo), (am, zaG k 3 (gr3 r0 r1 r2)), (r0, zaJ k 3 (mrow0 fo)), (r1, zaJ k 3 (mrow1 fo)), (r2, zaJ k 3 (mrow2 fo))] := hD
  have hP9 := hP.sub (ws' := [(h, .inr (0, [.ref ap, .ref as1, .ref ai, .ref ar, .ref am])), (ap, zaJ k 4 fo), (am, zaG k 3 (gr3 r0 r1 r2)), (r0, zaJ k 3 (mrow0 fo)), (r1, zaJ k 3 (mrow1 fo)), (r2, zaJ k 3 (mrow2 fo)), (ho, zaJ k 4 fo)]) [1, 2, 3, 4, 5, 6, 0] rfl
  have hD9 := hD.sub (ws' := [(h, .inr (0, [.ref ap, .ref as1, .ref ai, .ref ar, .ref am])), (ap, zaJ k 4 fo), (am, zaG k 3 (gr3 r0 r1 r2)), (r0, zaJ k 3 (mrow0 fo)), (r1, zaJ k 3 (mrow1 fo)), (r2, zaJ k 3 (mrow2 fo)), (ho, zaJ k 4 fo)]) [1, 2, 3, 4, 5, 6, 0] (by decide) rfl
  exact W.vret hx hb hr (fun t9 ht9 hW9 => ⟨⟨[(h, .inr (0, [.ref ap, .ref as1, .ref ai, .ref ar, .ref am])), (ap, zaJ k 4 fo), (am, zaG k 3 (gr3 r0 r1 r2)), (r0, zaJ k 3 (mrow0 fo)), (r1, zaJ k 3 (mrow1 fo)), (r2, zaJ k 3 (mrow2 fo)), (ho, zaJ k 4 fo)], rfl, rfl, by rw [ht9]; exact hP9, hD9⟩, hS.F ht9⟩) hS.2.2 dX0_set_15
set_option maxHeartbeats 4000000 in
set_option maxRecDepth 100000 in
theorem c_X0_bodyComponent (l : Launch) (D : va_G) (k : Nat → ClassId) (sz : Nat) (h ap as1 ai ar am r0 r1 r2 : Nat) (fM0 fM1 fM2 : Nat → Int64) (x y z : Int64) (j : Nat) (hj : j < 3) : Met l yX0_bodyComponent wsX0_bodyComponent ({ frames := 1, cells := 0, slots := 0, locals := 20 } : Room) (va_Pc [.ref h, .long x, .long y, .long z, .int (nI j)] (zPre D k [(h, .inr (0, [.ref ap, .ref as1, .ref ai, .ref ar, .ref am])), (am, zaG k 3 (gr3 r0 r1 r2)), (r0, zaJ k 3 fM0), (r1, zaJ k 3 fM1), (r2, zaJ k 3 fM2)] sz zX0)) (zQl D [(h, .inr (0, [.ref ap, .ref as1, .ref ai, .ref ar, .ref am])), (am, zaG k 3 (gr3 r0 r1 r2)), (r0, zaJ k 3 fM0), (r1, zaJ k 3 fM1), (r2, zaJ k 3 fM2)] sz (bodyr fM0 fM1 fM2 x y z j) (fun w : va_W => w = [(h, .inr (0, [.ref ap, .ref as1, .ref ai, .ref ar, .ref am])), (am, zaG k 3 (gr3 r0 r1 r2)), (r0, zaJ k 3 fM0), (r1, zaJ k 3 fM1), (r2, zaJ k 3 fM2)])) 0 0 (va_A [(h, .inr (0, [.ref ap, .ref as1, .ref ai, .ref ar, .ref am])), (am, zaG k 3 (gr3 r0 r1 r2)), (r0, zaJ k 3 fM0), (r1, zaJ k 3 fM1), (r2, zaJ k 3 fM2)] sz) := by
  refine Met.ofW (cc := cX0_bodyComponent) (maxL := 8) (ret := (some .long)) (by decide) rfl ?_
  intro p e s m args below meth c s₁ B hml hv
  obtain ⟨rfl, hsz, hP, hK, hD0, hE⟩ := hv
  have hx := B.exec
  have hb := B.bytes
  have hr := B.returns
  have hts := atoms_spec (ws := wsX0_bodyComponent) B.pre
  have hown : s.vm.findClass RX0 = some m.cls := findClass_of_methodNamed B.named
  have hlocks := B.notSynchronized
  subst hsz
  have hD := hD0.self (sz := s.heap.size)
  delta zQl zB
  generalize hAe : va_A [(h, .inr (0, [.ref ap, .ref as1, .ref ai, .ref ar, .ref am])), (am, zaG k 3 (gr3 r0 r1 r2)), (r0, zaJ k 3 fM0), (r1, zaJ k 3 fM1), (r2, zaJ k 3 fM2)] s.heap.size = A at hD hE ⊢
  have hA : ∀ q : Nat, s.heap.size ≤ q → A q := fun q h => by rw [← hAe]; exact Or.inr h
  have hS : va_S A s.heap s.heap [] := va_S.rf
  have hl := lv_entry [.ref h, .long x, .long y, .long z, .int (nI j)] (n := 8) (Nat.le_of_ble_eq_true rfl)
  rw [lg_entry_eq]
  generalize (lg_sl [.ref h, .long x, .long y, .long z, .int (nI j)] ++ List.replicate (8 - (lg_sl [.ref h, .long x, .long y, .long z, .int (nI j)]).length) Slot.unset).toArray = ls at hl ⊢
  have hl : lv_has ls 8 [(0, .ref h), (1, .long x), (3, .long y), (5, .long z), (7, .int (nI j))] := hl
  have hl26 : (Cond.fieldLink RX0 26 "InertialReference$Attitude" "matrix" "[[J").before #[Value.ref h, Value.long x, Value.long y, Value.long z, Value.int (nI j)] s = true := zw hts 1 rfl
  have hinX0 : ∀ w ∈ u_ws RX0 TX0 5, w ∈ wsX0_bodyComponent := fun w h => List.mem_cons_of_mem _ (List.mem_append_right _ h)
  refine lv_iload hx hb dX0_bodyComponent_0 (lv_at hl 4 rfl) ?_
  refine z_calli0 (wc := []) (wr := [(h, .inr (0, [.ref ap, .ref as1, .ref ai, .ref ar, .ref am])), (am, zaG k 3 (gr3 r0 r1 r2)), (r0, zaJ k 3 fM0), (r1, zaJ k 3 fM1), (r2, zaJ k 3 fM2)]) (va_runS (As := [.int (nI j)]) (rest := []) ⟨hx, hb, hml, hown, hts⟩ (c_X5_isAxis l D k s.heap.size (nI j)) (va_cwS 1 hts gX0_bodyComponent_X5_isAxis rfl rfl rfl (by decide +kernel) ⟨Nat.le_of_ble_eq_true rfl, Nat.le_of_ble_eq_true rfl⟩) (z_preS (wc := []) hP hD hK [] rfl rfl zb0 zp0) rfl rfl hl.1 rfl (lv_room (Nat.le_of_ble_eq_true rfl)) dX0_bodyComponent_2 ⟨Nat.zero_le _, Nat.zero_le _⟩) hP hD hS hA [] [0, 1, 2, 3, 4] rfl rfl rfl (by decide) (fun w H locs hF hP hD hS => ?_)
  subst hF
  have hP : va_P D vwCl [(h, .inr (0, [.ref ap, .ref as1, .ref ai, .ref ar, .ref am])), (am, zaG k 3 (gr3 r0 r1 r2)), (r0, zaJ k 3 fM0), (r1, zaJ k 3 fM1), (r2, zaJ k 3 fM2)] H := hP
  have hD : va_D A [(h, .inr (0, [.ref ap, .ref as1, .ref ai, .ref ar, .ref am])), (am, zaG k 3 (gr3 r0 r1 r2)), (r0, zaJ k 3 fM0), (r1, zaJ k 3 fM1), (r2, zaJ k 3 fM2)] := hD
  refine lv_if_ne (tgt := 10) hx hb dX0_bodyComponent_5 (by decide) (fun c => ?_) (fun c => absurd c (by rw [zin_t (by rw [nI_toInt (by omega)]; omega)]; decide))
  refine lv_aload_n hx hb dX0_bodyComponent_10 rfl (lv_at hl 0 rfl) ?_
  refine va_get (D := D) (ci := 0) (v := .ref am) (C := RX0) (T := TX0) (N := 5) hx hb hts hinX0 hown hK hP 0 rfl rfl 4 (Nat.le_of_ble_eq_true rfl) hl26 (fun _ h9 => h9) rfl dX0_bodyComponent_11 ?_
  refine lv_iconst (v := 0) hx hb dX0_bodyComponent_14 (by decide) ?_
  refine z_gald hx hb hK hP 1 rfl 0 zx0 (by decide) (v := r0) rfl dX0_bodyComponent_15 ?_
  refine lv_iload hx hb dX0_bodyComponent_16 (lv_at hl 4 rfl) ?_
  refine z_lald hx hb hK hP 2 rfl j (zxn (by omega)) (by omega) (v := fM0 j) rfl dX0_bodyComponent_18 ?_
  refine lv_lload_n hx hb dX0_bodyComponent_19 rfl (lv_at hl 1 rfl) ?_
  refine lv_lmul hx hb dX0_bodyComponent_20 ?_
  refine lv_aload_n hx hb dX0_bodyComponent_21 rfl (lv_at hl 0 rfl) ?_
  refine va_get (D := D) (ci := 0) (v := .ref am) (C := RX0) (T := TX0) (N := 5) hx hb hts hinX0 hown hK hP 0 rfl rfl 4 (Nat.le_of_ble_eq_true rfl) hl26 (fun _ h9 => h9) rfl dX0_bodyComponent_22 ?_
  refine lv_iconst (v := 1) hx hb dX0_bodyComponent_25 (by decide) ?_
  refine z_gald hx hb hK hP 1 rfl 1 zx1 (by decide) (v := r1) rfl dX0_bodyComponent_26 ?_
  refine lv_iload hx hb dX0_bodyComponent_27 (lv_at hl 4 rfl) ?_
  refine z_lald hx hb hK hP 3 rfl j (zxn (by omega)) (by omega) (v := fM1 j) rfl dX0_bodyComponent_29 ?_
  refine lv_lload_n hx hb dX0_bodyComponent_30 rfl (lv_at hl 2 rfl) ?_
  refine lv_lmul hx hb dX0_bodyComponent_31 ?_
  refine lv_ladd hx hb dX0_bodyComponent_32 ?_
  refine lv_aload_n hx hb dX0_bodyComponent_33 rfl (lv_at hl 0 rfl) ?_
  refine va_get (D := D) (ci := 0) (v := .ref am) (C := RX0) (T := TX0) (N := 5) hx hb hts hinX0 hown hK hP 0 rfl rfl 4 (Nat.le_of_ble_eq_true rfl) hl26 (fun _ h9 => h9) rfl dX0_bodyComponent_34 ?_
  refine lv_iconst (v := 2) hx hb dX0_bodyComponent_37 (by decide) ?_
  refine z_gald hx hb hK hP 1 rfl 2 zx2 (by decide) (v := r2) rfl dX0_bodyComponent_38 ?_
  refine lv_iload hx hb dX0_bodyComponent_39 (lv_at hl 4 rfl) ?_
  refine z_lald hx hb hK hP 4 rfl j (zxn (by omega)) (by omega) (v := fM2 j) rfl dX0_bodyComponent_41 ?_
  refine lv_lload hx hb dX0_bodyComponent_42 (lv_at hl 3 rfl) ?_
  refine lv_lmul hx hb dX0_bodyComponent_44 ?_
  refine lv_ladd hx hb dX0_bodyComponent_45 ?_
  refine lv_bipush (v := 28) hx hb dX0_bodyComponent_46 (by decide) ?_
  refine lv_lshr (v := sar ((((fM0 j) * x) + ((fM1 j) * y)) + ((fM2 j) * z)) 28) hx hb dX0_bodyComponent_48 rfl ?_
  have hP9 := hP.sub (ws' := [(h, .inr (0, [.ref ap, .ref as1, .ref ai, .ref ar, .ref am])), (am, zaG k 3 (gr3 r0 r1 r2)), (r0, zaJ k 3 fM0), (r1, zaJ k 3 fM1), (r2, zaJ k 3 fM2)]) [0, 1, 2, 3, 4] rfl
  have hD9 := hD.sub (ws' := [(h, .inr (0, [.ref ap, .ref as1, .ref ai, .ref ar, .ref am])), (am, zaG k 3 (gr3 r0 r1 r2)), (r0, zaJ k 3 fM0), (r1, zaJ k 3 fM1), (r2, zaJ k 3 fM2)]) [0, 1, 2, 3, 4] (by decide) rfl
  exact W.lret (v := sar ((((fM0 j) * x) + ((fM1 j) * y)) + ((fM2 j) * z)) 28) hx hb hr (fun t9 ht9 hW9 => ⟨⟨(sar ((((fM0 j) * x) + ((fM1 j) * y)) + ((fM2 j) * z)) 28), [(h, .inr (0, [.ref ap, .ref as1, .ref ai, .ref ar, .ref am])), (am, zaG k 3 (gr3 r0 r1 r2)), (r0, zaJ k 3 fM0), (r1, zaJ k 3 fM1), (r2, zaJ k 3 fM2)], rfl, ⟨by rfl, rfl⟩, by rw [ht9]; exact hP9, hD9⟩, hS.F ht9⟩) hS.2.2 dX0_bodyComponent_49
set_option maxHeartbeats 4000000 in
set_option maxRecDepth 100000 in
theorem c_X0_nav0 (l : Launch) (D : va_G) (k : Nat → ClassId) (sz : Nat) (h ap as1 ai ar am r0 r1 r2 : Nat) (fM0 fM1 fM2 : Nat → Int64) (x y z : Int64) : Met l yX0_navigationComponent wsX0_navigationComponent ({ frames := 1, cells := 0, slots := 0, locals := 20 } : Room) (va_Pc [.ref h, .long x, .long y, .long z, .int 0] (zPre D k [(h, .inr (0, [.ref ap, .ref as1, .ref ai, .ref ar, .ref am])), (am, zaG k 3 (gr3 r0 r1 r2)), (r0, zaJ k 3 fM0), (r1, zaJ k 3 fM1), (r2, zaJ k 3 fM2)] sz zX0)) (zQl D [(h, .inr (0, [.ref ap, .ref as1, .ref ai, .ref ar, .ref am])), (am, zaG k 3 (gr3 r0 r1 r2)), (r0, zaJ k 3 fM0), (r1, zaJ k 3 fM1), (r2, zaJ k 3 fM2)] sz (navr fM0 x y z) (fun w : va_W => w = [(h, .inr (0, [.ref ap, .ref as1, .ref ai, .ref ar, .ref am])), (am, zaG k 3 (gr3 r0 r1 r2)), (r0, zaJ k 3 fM0), (r1, zaJ k 3 fM1), (r2, zaJ k 3 fM2)])) 0 0 (va_A [(h, .inr (0, [.ref ap, .ref as1, .ref ai, .ref ar, .ref am])), (am, zaG k 3 (gr3 r0 r1 r2)), (r0, zaJ k 3 fM0), (r1, zaJ k 3 fM1), (r2, zaJ k 3 fM2)] sz) := by
  refine Met.ofW (cc := cX0_navigationComponent) (maxL := 8) (ret := (some .long)) (by decide) rfl ?_
  intro p e s m args below meth c s₁ B hml hv
  obtain ⟨rfl, hsz, hP, hK, hD0, hE⟩ := hv
  have hx := B.exec
  have hb := B.bytes
  have hr := B.returns
  have hts := atoms_spec (ws := wsX0_navigationComponent) B.pre
  have hown : s.vm.findClass RX0 = some m.cls := findClass_of_methodNamed B.named
  have hlocks := B.notSynchronized
  subst hsz
  have hD := hD0.self (sz := s.heap.size)
  delta zQl zB
  generalize hAe : va_A [(h, .inr (0, [.ref ap, .ref as1, .ref ai, .ref ar, .ref am])), (am, zaG k 3 (gr3 r0 r1 r2)), (r0, zaJ k 3 fM0), (r1, zaJ k 3 fM1), (r2, zaJ k 3 fM2)] s.heap.size = A at hD hE ⊢
  have hA : ∀ q : Nat, s.heap.size ≤ q → A q := fun q h => by rw [← hAe]; exact Or.inr h
  have hS : va_S A s.heap s.heap [] := va_S.rf
  have hl := lv_entry [.ref h, .long x, .long y, .long z, .int 0] (n := 8) (Nat.le_of_ble_eq_true rfl)
  rw [lg_entry_eq]
  generalize (lg_sl [.ref h, .long x, .long y, .long z, .int 0] ++ List.replicate (8 - (lg_sl [.ref h, .long x, .long y, .long z, .int 0]).length) Slot.unset).toArray = ls at hl ⊢
  have hl : lv_has ls 8 [(0, .ref h), (1, .long x), (3, .long y), (5, .long z), (7, .int 0)] := hl
  have hl26 : (Cond.fieldLink RX0 26 "InertialReference$Attitude" "matrix" "[[J").before #[Value.ref h, Value.long x, Value.long y, Value.long z, Value.int 0] s = true := zw hts 1 rfl
  have hinX0 : ∀ w ∈ u_ws RX0 TX0 5, w ∈ wsX0_navigationComponent := fun w h => List.mem_cons_of_mem _ (List.mem_append_right _ h)
  refine lv_iload hx hb dX0_navigationComponent_0 (lv_at hl 4 rfl) ?_
  refine z_calli0 (wc := []) (wr := [(h, .inr (0, [.ref ap, .ref as1, .ref ai, .ref ar, .ref am])), (am, zaG k 3 (gr3 r0 r1 r2)), (r0, zaJ k 3 fM0), (r1, zaJ k 3 fM1), (r2, zaJ k 3 fM2)]) (va_runS (As := [.int 0]) (rest := []) ⟨hx, hb, hml, hown, hts⟩ (c_X5_isAxis l D k s.heap.size 0) (va_cwS 1 hts gX0_navigationComponent_X5_isAxis rfl rfl rfl (by decide +kernel) ⟨Nat.le_of_ble_eq_true rfl, Nat.le_of_ble_eq_true rfl⟩) (z_preS (wc := []) hP hD hK [] rfl rfl zb0 zp0) rfl rfl hl.1 rfl (lv_room (Nat.le_of_ble_eq_true rfl)) dX0_navigationComponent_2 ⟨Nat.zero_le _, Nat.zero_le _⟩) hP hD hS hA [] [0, 1, 2, 3, 4] rfl rfl rfl (by decide) (fun w H locs hF hP hD hS => ?_)
  subst hF
  have hP : va_P D vwCl [(h, .inr (0, [.ref ap, .ref as1, .ref ai, .ref ar, .ref am])), (am, zaG k 3 (gr3 r0 r1 r2)), (r0, zaJ k 3 fM0), (r1, zaJ k 3 fM1), (r2, zaJ k 3 fM2)] H := hP
  have hD : va_D A [(h, .inr (0, [.ref ap, .ref as1, .ref ai, .ref ar, .ref am])), (am, zaG k 3 (gr3 r0 r1 r2)), (r0, zaJ k 3 fM0), (r1, zaJ k 3 fM1), (r2, zaJ k 3 fM2)] := hD
  refine lv_if_ne (tgt := 10) hx hb dX0_navigationComponent_5 (by decide) (fun c => ?_) (fun c => absurd c (by decide))
  refine lv_aload_n hx hb dX0_navigationComponent_10 rfl (lv_at hl 0 rfl) ?_
  refine va_get (D := D) (ci := 0) (v := .ref am) (C := RX0) (T := TX0) (N := 5) hx hb hts hinX0 hown hK hP 0 rfl rfl 4 (Nat.le_of_ble_eq_true rfl) hl26 (fun _ h9 => h9) rfl dX0_navigationComponent_11 ?_
  refine lv_iload hx hb dX0_navigationComponent_14 (lv_at hl 4 rfl) ?_
  refine z_gald hx hb hK hP 1 rfl 0 zx0 (by decide) (v := r0) rfl dX0_navigationComponent_16 ?_
  refine lv_iconst (v := 0) hx hb dX0_navigationComponent_17 (by decide) ?_
  refine z_lald hx hb hK hP 2 rfl 0 zx0 (by decide) (v := fM0 0) rfl dX0_navigationComponent_18 ?_
  refine lv_lload_n hx hb dX0_navigationComponent_19 rfl (lv_at hl 1 rfl) ?_
  refine lv_lmul hx hb dX0_navigationComponent_20 ?_
  refine lv_aload_n hx hb dX0_navigationComponent_21 rfl (lv_at hl 0 rfl) ?_
  refine va_get (D := D) (ci := 0) (v := .ref am) (C := RX0) (T := TX0) (N := 5) hx hb hts hinX0 hown hK hP 0 rfl rfl 4 (Nat.le_of_ble_eq_true rfl) hl26 (fun _ h9 => h9) rfl dX0_navigationComponent_22 ?_
  refine lv_iload hx hb dX0_navigationComponent_25 (lv_at hl 4 rfl) ?_
  refine z_gald hx hb hK hP 1 rfl 0 zx0 (by decide) (v := r0) rfl dX0_navigationComponent_27 ?_
  refine lv_iconst (v := 1) hx hb dX0_navigationComponent_28 (by decide) ?_
  refine z_lald hx hb hK hP 2 rfl 1 zx1 (by decide) (v := fM0 1) rfl dX0_navigationComponent_29 ?_
  refine lv_lload_n hx hb dX0_navigationComponent_30 rfl (lv_at hl 2 rfl) ?_
  refine lv_lmul hx hb dX0_navigationComponent_31 ?_
  refine lv_ladd hx hb dX0_navigationComponent_32 ?_
  refine lv_aload_n hx hb dX0_navigationComponent_33 rfl (lv_at hl 0 rfl) ?_
  refine va_get (D := D) (ci := 0) (v := .ref am) (C := RX0) (T := TX0) (N := 5) hx hb hts hinX0 hown hK hP 0 rfl rfl 4 (Nat.le_of_ble_eq_true rfl) hl26 (fun _ h9 => h9) rfl dX0_navigationComponent_34 ?_
  refine lv_iload hx hb dX0_navigationComponent_37 (lv_at hl 4 rfl) ?_
  refine z_gald hx hb hK hP 1 rfl 0 zx0 (by decide) (v := r0) rfl dX0_navigationComponent_39 ?_
  refine lv_iconst (v := 2) hx hb dX0_navigationComponent_40 (by decide) ?_
  refine z_lald hx hb hK hP 2 rfl 2 zx2 (by decide) (v := fM0 2) rfl dX0_navigationComponent_41 ?_
  refine lv_lload hx hb dX0_navigationComponent_42 (lv_at hl 3 rfl) ?_
  refine lv_lmul hx hb dX0_navigationComponent_44 ?_
  refine lv_ladd hx hb dX0_navigationComponent_45 ?_
  refine lv_bipush (v := 28) hx hb dX0_navigationComponent_46 (by decide) ?_
  refine lv_lshr (v := sar ((((fM0 0) * x) + ((fM0 1) * y)) + ((fM0 2) * z)) 28) hx hb dX0_navigationComponent_48 rfl ?_
  have hP9 := hP.sub (ws' := [(h, .inr (0, [.ref ap, .ref as1, .ref ai, .ref ar, .ref am])), (am, zaG k 3 (gr3 r0 r1 r2)), (r0, zaJ k 3 fM0), (r1, zaJ k 3 fM1), (r2, zaJ k 3 fM2)]) [0, 1, 2, 3, 4] rfl
  have hD9 := hD.sub (ws' := [(h, .inr (0, [.ref ap, .ref as1, .ref ai, .ref ar, .ref am])), (am, zaG k 3 (gr3 r0 r1 r2)), (r0, zaJ k 3 fM0), (r1, zaJ k 3 fM1), (r2, zaJ k 3 fM2)]) [0, 1, 2, 3, 4] (by decide) rfl
  exact W.lret (v := sar ((((fM0 0) * x) + ((fM0 1) * y)) + ((fM0 2) * z)) 28) hx hb hr (fun t9 ht9 hW9 => ⟨⟨(sar ((((fM0 0) * x) + ((fM0 1) * y)) + ((fM0 2) * z)) 28), [(h, .inr (0, [.ref ap, .ref as1, .ref ai, .ref ar, .ref am])), (am, zaG k 3 (gr3 r0 r1 r2)), (r0, zaJ k 3 fM0), (r1, zaJ k 3 fM1), (r2, zaJ k 3 fM2)], rfl, ⟨by rfl, rfl⟩, by rw [ht9]; exact hP9, hD9⟩, hS.F ht9⟩) hS.2.2 dX0_navigationComponent_49
set_option maxHeartbeats 4000000 in
set_option maxRecDepth 100000 in
theorem c_X0_nav1 (l : Launch) (D : va_G) (k : Nat → ClassId) (sz : Nat) (h ap as1 ai ar am r0 r1 r2 : Nat) (fM0 fM1 fM2 : Nat → Int64) (x y z : Int64) : Met l yX0_navigationComponent wsX0_navigationComponent ({ frames := 1, cells := 0, slots := 0, locals := 20 } : Room) (va_Pc [.ref h, .long x, .long y, .long z, .int 1] (zPre D k [(h, .inr (0, [.ref ap, .ref as1, .ref ai, .ref ar, .ref am])), (am, zaG k 3 (gr3 r0 r1 r2)), (r0, zaJ k 3 fM0), (r1, zaJ k 3 fM1), (r2, zaJ k 3 fM2)] sz zX0)) (zQl D [(h, .inr (0, [.ref ap, .ref as1, .ref ai, .ref ar, .ref am])), (am, zaG k 3 (gr3 r0 r1 r2)), (r0, zaJ k 3 fM0), (r1, zaJ k 3 fM1), (r2, zaJ k 3 fM2)] sz (navr fM1 x y z) (fun w : va_W => w = [(h, .inr (0, [.ref ap, .ref as1, .ref ai, .ref ar, .ref am])), (am, zaG k 3 (gr3 r0 r1 r2)), (r0, zaJ k 3 fM0), (r1, zaJ k 3 fM1), (r2, zaJ k 3 fM2)])) 0 0 (va_A [(h, .inr (0, [.ref ap, .ref as1, .ref ai, .ref ar, .ref am])), (am, zaG k 3 (gr3 r0 r1 r2)), (r0, zaJ k 3 fM0), (r1, zaJ k 3 fM1), (r2, zaJ k 3 fM2)] sz) := by
  refine Met.ofW (cc := cX0_navigationComponent) (maxL := 8) (ret := (some .long)) (by decide) rfl ?_
  intro p e s m args below meth c s₁ B hml hv
  obtain ⟨rfl, hsz, hP, hK, hD0, hE⟩ := hv
  have hx := B.exec
  have hb := B.bytes
  have hr := B.returns
  have hts := atoms_spec (ws := wsX0_navigationComponent) B.pre
  have hown : s.vm.findClass RX0 = some m.cls := findClass_of_methodNamed B.named
  have hlocks := B.notSynchronized
  subst hsz
  have hD := hD0.self (sz := s.heap.size)
  delta zQl zB
  generalize hAe : va_A [(h, .inr (0, [.ref ap, .ref as1, .ref ai, .ref ar, .ref am])), (am, zaG k 3 (gr3 r0 r1 r2)), (r0, zaJ k 3 fM0), (r1, zaJ k 3 fM1), (r2, zaJ k 3 fM2)] s.heap.size = A at hD hE ⊢
  have hA : ∀ q : Nat, s.heap.size ≤ q → A q := fun q h => by rw [← hAe]; exact Or.inr h
  have hS : va_S A s.heap s.heap [] := va_S.rf
  have hl := lv_entry [.ref h, .long x, .long y, .long z, .int 1] (n := 8) (Nat.le_of_ble_eq_true rfl)
  rw [lg_entry_eq]
  generalize (lg_sl [.ref h, .long x, .long y, .long z, .int 1] ++ List.replicate (8 - (lg_sl [.ref h, .long x, .long y, .long z, .int 1]).length) Slot.unset).toArray = ls at hl ⊢
  have hl : lv_has ls 8 [(0, .ref h), (1, .long x), (3, .long y), (5, .long z), (7, .int 1)] := hl
  have hl26 : (Cond.fieldLink RX0 26 "InertialReference$Attitude" "matrix" "[[J").before #[Value.ref h, Value.long x, Value.long y, Value.long z, Value.int 1] s = true := zw hts 1 rfl
  have hinX0 : ∀ w ∈ u_ws RX0 TX0 5, w ∈ wsX0_navigationComponent := fun w h => List.mem_cons_of_mem _ (List.mem_append_right _ h)
  refine lv_iload hx hb dX0_navigationComponent_0 (lv_at hl 4 rfl) ?_
  refine z_calli0 (wc := []) (wr := [(h, .inr (0, [.ref ap, .ref as1, .ref ai, .ref ar, .ref am])), (am, zaG k 3 (gr3 r0 r1 r2)), (r0, zaJ k 3 fM0), (r1, zaJ k 3 fM1), (r2, zaJ k 3 fM2)]) (va_runS (As := [.int 1]) (rest := []) ⟨hx, hb, hml, hown, hts⟩ (c_X5_isAxis l D k s.heap.size 1) (va_cwS 1 hts gX0_navigationComponent_X5_isAxis rfl rfl rfl (by decide +kernel) ⟨Nat.le_of_ble_eq_true rfl, Nat.le_of_ble_eq_true rfl⟩) (z_preS (wc := []) hP hD hK [] rfl rfl zb0 zp0) rfl rfl hl.1 rfl (lv_room (Nat.le_of_ble_eq_true rfl)) dX0_navigationComponent_2 ⟨Nat.zero_le _, Nat.zero_le _⟩) hP hD hS hA [] [0, 1, 2, 3, 4] rfl rfl rfl (by decide) (fun w H locs hF hP hD hS => ?_)
  subst hF
  have hP : va_P D vwCl [(h, .inr (0, [.ref ap, .ref as1, .ref ai, .ref ar, .ref am])), (am, zaG k 3 (gr3 r0 r1 r2)), (r0, zaJ k 3 fM0), (r1, zaJ k 3 fM1), (r2, zaJ k 3 fM2)] H := hP
  have hD : va_D A [(h, .inr (0, [.ref ap, .ref as1, .ref ai, .ref ar, .ref am])), (am, zaG k 3 (gr3 r0 r1 r2)), (r0, zaJ k 3 fM0), (r1, zaJ k 3 fM1), (r2, zaJ k 3 fM2)] := hD
  refine lv_if_ne (tgt := 10) hx hb dX0_navigationComponent_5 (by decide) (fun c => ?_) (fun c => absurd c (by decide))
  refine lv_aload_n hx hb dX0_navigationComponent_10 rfl (lv_at hl 0 rfl) ?_
  refine va_get (D := D) (ci := 0) (v := .ref am) (C := RX0) (T := TX0) (N := 5) hx hb hts hinX0 hown hK hP 0 rfl rfl 4 (Nat.le_of_ble_eq_true rfl) hl26 (fun _ h9 => h9) rfl dX0_navigationComponent_11 ?_
  refine lv_iload hx hb dX0_navigationComponent_14 (lv_at hl 4 rfl) ?_
  refine z_gald hx hb hK hP 1 rfl 1 zx1 (by decide) (v := r1) rfl dX0_navigationComponent_16 ?_
  refine lv_iconst (v := 0) hx hb dX0_navigationComponent_17 (by decide) ?_
  refine z_lald hx hb hK hP 3 rfl 0 zx0 (by decide) (v := fM1 0) rfl dX0_navigationComponent_18 ?_
  refine lv_lload_n hx hb dX0_navigationComponent_19 rfl (lv_at hl 1 rfl) ?_
  refine lv_lmul hx hb dX0_navigationComponent_20 ?_
  refine lv_aload_n hx hb dX0_navigationComponent_21 rfl (lv_at hl 0 rfl) ?_
  refine va_get (D := D) (ci := 0) (v := .ref am) (C := RX0) (T := TX0) (N := 5) hx hb hts hinX0 hown hK hP 0 rfl rfl 4 (Nat.le_of_ble_eq_true rfl) hl26 (fun _ h9 => h9) rfl dX0_navigationComponent_22 ?_
  refine lv_iload hx hb dX0_navigationComponent_25 (lv_at hl 4 rfl) ?_
  refine z_gald hx hb hK hP 1 rfl 1 zx1 (by decide) (v := r1) rfl dX0_navigationComponent_27 ?_
  refine lv_iconst (v := 1) hx hb dX0_navigationComponent_28 (by decide) ?_
  refine z_lald hx hb hK hP 3 rfl 1 zx1 (by decide) (v := fM1 1) rfl dX0_navigationComponent_29 ?_
  refine lv_lload_n hx hb dX0_navigationComponent_30 rfl (lv_at hl 2 rfl) ?_
  refine lv_lmul hx hb dX0_navigationComponent_31 ?_
  refine lv_ladd hx hb dX0_navigationComponent_32 ?_
  refine lv_aload_n hx hb dX0_navigationComponent_33 rfl (lv_at hl 0 rfl) ?_
  refine va_get (D := D) (ci := 0) (v := .ref am) (C := RX0) (T := TX0) (N := 5) hx hb hts hinX0 hown hK hP 0 rfl rfl 4 (Nat.le_of_ble_eq_true rfl) hl26 (fun _ h9 => h9) rfl dX0_navigationComponent_34 ?_
  refine lv_iload hx hb dX0_navigationComponent_37 (lv_at hl 4 rfl) ?_
  refine z_gald hx hb hK hP 1 rfl 1 zx1 (by decide) (v := r1) rfl dX0_navigationComponent_39 ?_
  refine lv_iconst (v := 2) hx hb dX0_navigationComponent_40 (by decide) ?_
  refine z_lald hx hb hK hP 3 rfl 2 zx2 (by decide) (v := fM1 2) rfl dX0_navigationComponent_41 ?_
  refine lv_lload hx hb dX0_navigationComponent_42 (lv_at hl 3 rfl) ?_
  refine lv_lmul hx hb dX0_navigationComponent_44 ?_
  refine lv_ladd hx hb dX0_navigationComponent_45 ?_
  refine lv_bipush (v := 28) hx hb dX0_navigationComponent_46 (by decide) ?_
  refine lv_lshr (v := sar ((((fM1 0) * x) + ((fM1 1) * y)) + ((fM1 2) * z)) 28) hx hb dX0_navigationComponent_48 rfl ?_
  have hP9 := hP.sub (ws' := [(h, .inr (0, [.ref ap, .ref as1, .ref ai, .ref ar, .ref am])), (am, zaG k 3 (gr3 r0 r1 r2)), (r0, zaJ k 3 fM0), (r1, zaJ k 3 fM1), (r2, zaJ k 3 fM2)]) [0, 1, 2, 3, 4] rfl
  have hD9 := hD.sub (ws' := [(h, .inr (0, [.ref ap, .ref as1, .ref ai, .ref ar, .ref am])), (am, zaG k 3 (gr3 r0 r1 r2)), (r0, zaJ k 3 fM0), (r1, zaJ k 3 fM1), (r2, zaJ k 3 fM2)]) [0, 1, 2, 3, 4] (by decide) rfl
  exact W.lret (v := sar ((((fM1 0) * x) + ((fM1 1) * y)) + ((fM1 2) * z)) 28) hx hb hr (fun t9 ht9 hW9 => ⟨⟨(sar ((((fM1 0) * x) + ((fM1 1) * y)) + ((fM1 2) * z)) 28), [(h, .inr (0, [.ref ap, .ref as1, .ref ai, .ref ar, .ref am])), (am, zaG k 3 (gr3 r0 r1 r2)), (r0, zaJ k 3 fM0), (r1, zaJ k 3 fM1), (r2, zaJ k 3 fM2)], rfl, ⟨by rfl, rfl⟩, by rw [ht9]; exact hP9, hD9⟩, hS.F ht9⟩) hS.2.2 dX0_navigationComponent_49
set_option maxHeartbeats 4000000 in
set_option maxRecDepth 100000 in
theorem c_X0_nav2 (l : Launch) (D : va_G) (k : Nat → ClassId) (sz : Nat) (h ap as1 ai ar am r0 r1 r2 : Nat) (fM0 fM1 fM2 : Nat → Int64) (x y z : Int64) : Met l yX0_navigationComponent wsX0_navigationComponent ({ frames := 1, cells := 0, slots := 0, locals := 20 } : Room) (va_Pc [.ref h, .long x, .long y, .long z, .int 2] (zPre D k [(h, .inr (0, [.ref ap, .ref as1, .ref ai, .ref ar, .ref am])), (am, zaG k 3 (gr3 r0 r1 r2)), (r0, zaJ k 3 fM0), (r1, zaJ k 3 fM1), (r2, zaJ k 3 fM2)] sz zX0)) (zQl D [(h, .inr (0, [.ref ap, .ref as1, .ref ai, .ref ar, .ref am])), (am, zaG k 3 (gr3 r0 r1 r2)), (r0, zaJ k 3 fM0), (r1, zaJ k 3 fM1), (r2, zaJ k 3 fM2)] sz (navr fM2 x y z) (fun w : va_W => w = [(h, .inr (0, [.ref ap, .ref as1, .ref ai, .ref ar, .ref am])), (am, zaG k 3 (gr3 r0 r1 r2)), (r0, zaJ k 3 fM0), (r1, zaJ k 3 fM1), (r2, zaJ k 3 fM2)])) 0 0 (va_A [(h, .inr (0, [.ref ap, .ref as1, .ref ai, .ref ar, .ref am])), (am, zaG k 3 (gr3 r0 r1 r2)), (r0, zaJ k 3 fM0), (r1, zaJ k 3 fM1), (r2, zaJ k 3 fM2)] sz) := by
  refine Met.ofW (cc := cX0_navigationComponent) (maxL := 8) (ret := (some .long)) (by decide) rfl ?_
  intro p e s m args below meth c s₁ B hml hv
  obtain ⟨rfl, hsz, hP, hK, hD0, hE⟩ := hv
  have hx := B.exec
  have hb := B.bytes
  have hr := B.returns
  have hts := atoms_spec (ws := wsX0_navigationComponent) B.pre
  have hown : s.vm.findClass RX0 = some m.cls := findClass_of_methodNamed B.named
  have hlocks := B.notSynchronized
  subst hsz
  have hD := hD0.self (sz := s.heap.size)
  delta zQl zB
  generalize hAe : va_A [(h, .inr (0, [.ref ap, .ref as1, .ref ai, .ref ar, .ref am])), (am, zaG k 3 (gr3 r0 r1 r2)), (r0, zaJ k 3 fM0), (r1, zaJ k 3 fM1), (r2, zaJ k 3 fM2)] s.heap.size = A at hD hE ⊢
  have hA : ∀ q : Nat, s.heap.size ≤ q → A q := fun q h => by rw [← hAe]; exact Or.inr h
  have hS : va_S A s.heap s.heap [] := va_S.rf
  have hl := lv_entry [.ref h, .long x, .long y, .long z, .int 2] (n := 8) (Nat.le_of_ble_eq_true rfl)
  rw [lg_entry_eq]
  generalize (lg_sl [.ref h, .long x, .long y, .long z, .int 2] ++ List.replicate (8 - (lg_sl [.ref h, .long x, .long y, .long z, .int 2]).length) Slot.unset).toArray = ls at hl ⊢
  have hl : lv_has ls 8 [(0, .ref h), (1, .long x), (3, .long y), (5, .long z), (7, .int 2)] := hl
  have hl26 : (Cond.fieldLink RX0 26 "InertialReference$Attitude" "matrix" "[[J").before #[Value.ref h, Value.long x, Value.long y, Value.long z, Value.int 2] s = true := zw hts 1 rfl
  have hinX0 : ∀ w ∈ u_ws RX0 TX0 5, w ∈ wsX0_navigationComponent := fun w h => List.mem_cons_of_mem _ (List.mem_append_right _ h)
  refine lv_iload hx hb dX0_navigationComponent_0 (lv_at hl 4 rfl) ?_
  refine z_calli0 (wc := []) (wr := [(h, .inr (0, [.ref ap, .ref as1, .ref ai, .ref ar, .ref am])), (am, zaG k 3 (gr3 r0 r1 r2)), (r0, zaJ k 3 fM0), (r1, zaJ k 3 fM1), (r2, zaJ k 3 fM2)]) (va_runS (As := [.int 2]) (rest := []) ⟨hx, hb, hml, hown, hts⟩ (c_X5_isAxis l D k s.heap.size 2) (va_cwS 1 hts gX0_navigationComponent_X5_isAxis rfl rfl rfl (by decide +kernel) ⟨Nat.le_of_ble_eq_true rfl, Nat.le_of_ble_eq_true rfl⟩) (z_preS (wc := []) hP hD hK [] rfl rfl zb0 zp0) rfl rfl hl.1 rfl (lv_room (Nat.le_of_ble_eq_true rfl)) dX0_navigationComponent_2 ⟨Nat.zero_le _, Nat.zero_le _⟩) hP hD hS hA [] [0, 1, 2, 3, 4] rfl rfl rfl (by decide) (fun w H locs hF hP hD hS => ?_)
  subst hF
  have hP : va_P D vwCl [(h, .inr (0, [.ref ap, .ref as1, .ref ai, .ref ar, .ref am])), (am, zaG k 3 (gr3 r0 r1 r2)), (r0, zaJ k 3 fM0), (r1, zaJ k 3 fM1), (r2, zaJ k 3 fM2)] H := hP
  have hD : va_D A [(h, .inr (0, [.ref ap, .ref as1, .ref ai, .ref ar, .ref am])), (am, zaG k 3 (gr3 r0 r1 r2)), (r0, zaJ k 3 fM0), (r1, zaJ k 3 fM1), (r2, zaJ k 3 fM2)] := hD
  refine lv_if_ne (tgt := 10) hx hb dX0_navigationComponent_5 (by decide) (fun c => ?_) (fun c => absurd c (by decide))
  refine lv_aload_n hx hb dX0_navigationComponent_10 rfl (lv_at hl 0 rfl) ?_
  refine va_get (D := D) (ci := 0) (v := .ref am) (C := RX0) (T := TX0) (N := 5) hx hb hts hinX0 hown hK hP 0 rfl rfl 4 (Nat.le_of_ble_eq_true rfl) hl26 (fun _ h9 => h9) rfl dX0_navigationComponent_11 ?_
  refine lv_iload hx hb dX0_navigationComponent_14 (lv_at hl 4 rfl) ?_
  refine z_gald hx hb hK hP 1 rfl 2 zx2 (by decide) (v := r2) rfl dX0_navigationComponent_16 ?_
  refine lv_iconst (v := 0) hx hb dX0_navigationComponent_17 (by decide) ?_
  refine z_lald hx hb hK hP 4 rfl 0 zx0 (by decide) (v := fM2 0) rfl dX0_navigationComponent_18 ?_
  refine lv_lload_n hx hb dX0_navigationComponent_19 rfl (lv_at hl 1 rfl) ?_
  refine lv_lmul hx hb dX0_navigationComponent_20 ?_
  refine lv_aload_n hx hb dX0_navigationComponent_21 rfl (lv_at hl 0 rfl) ?_
  refine va_get (D := D) (ci := 0) (v := .ref am) (C := RX0) (T := TX0) (N := 5) hx hb hts hinX0 hown hK hP 0 rfl rfl 4 (Nat.le_of_ble_eq_true rfl) hl26 (fun _ h9 => h9) rfl dX0_navigationComponent_22 ?_
  refine lv_iload hx hb dX0_navigationComponent_25 (lv_at hl 4 rfl) ?_
  refine z_gald hx hb hK hP 1 rfl 2 zx2 (by decide) (v := r2) rfl dX0_navigationComponent_27 ?_
  refine lv_iconst (v := 1) hx hb dX0_navigationComponent_28 (by decide) ?_
  refine z_lald hx hb hK hP 4 rfl 1 zx1 (by decide) (v := fM2 1) rfl dX0_navigationComponent_29 ?_
  refine lv_lload_n hx hb dX0_navigationComponent_30 rfl (lv_at hl 2 rfl) ?_
  refine lv_lmul hx hb dX0_navigationComponent_31 ?_
  refine lv_ladd hx hb dX0_navigationComponent_32 ?_
  refine lv_aload_n hx hb dX0_navigationComponent_33 rfl (lv_at hl 0 rfl) ?_
  refine va_get (D := D) (ci := 0) (v := .ref am) (C := RX0) (T := TX0) (N := 5) hx hb hts hinX0 hown hK hP 0 rfl rfl 4 (Nat.le_of_ble_eq_true rfl) hl26 (fun _ h9 => h9) rfl dX0_navigationComponent_34 ?_
  refine lv_iload hx hb dX0_navigationComponent_37 (lv_at hl 4 rfl) ?_
  refine z_gald hx hb hK hP 1 rfl 2 zx2 (by decide) (v := r2) rfl dX0_navigationComponent_39 ?_
  refine lv_iconst (v := 2) hx hb dX0_navigationComponent_40 (by decide) ?_
  refine z_lald hx hb hK hP 4 rfl 2 zx2 (by decide) (v := fM2 2) rfl dX0_navigationComponent_41 ?_
  refine lv_lload hx hb dX0_navigationComponent_42 (lv_at hl 3 rfl) ?_
  refine lv_lmul hx hb dX0_navigationComponent_44 ?_
  refine lv_ladd hx hb dX0_navigationComponent_45 ?_
  refine lv_bipush (v := 28) hx hb dX0_navigationComponent_46 (by decide) ?_
  refine lv_lshr (v := sar ((((fM2 0) * x) + ((fM2 1) * y)) + ((fM2 2) * z)) 28) hx hb dX0_navigationComponent_48 rfl ?_
  have hP9 := hP.sub (ws' := [(h, .inr (0, [.ref ap, .ref as1, .ref ai, .ref ar, .ref am])), (am, zaG k 3 (gr3 r0 r1 r2)), (r0, zaJ k 3 fM0), (r1, zaJ k 3 fM1), (r2, zaJ k 3 fM2)]) [0, 1, 2, 3, 4] rfl
  have hD9 := hD.sub (ws' := [(h, .inr (0, [.ref ap, .ref as1, .ref ai, .ref ar, .ref am])), (am, zaG k 3 (gr3 r0 r1 r2)), (r0, zaJ k 3 fM0), (r1, zaJ k 3 fM1), (r2, zaJ k 3 fM2)]) [0, 1, 2, 3, 4] (by decide) rfl
  exact W.lret (v := sar ((((fM2 0) * x) + ((fM2 1) * y)) + ((fM2 2) * z)) 28) hx hb hr (fun t9 ht9 hW9 => ⟨⟨(sar ((((fM2 0) * x) + ((fM2 1) * y)) + ((fM2 2) * z)) 28), [(h, .inr (0, [.ref ap, .ref as1, .ref ai, .ref ar, .ref am])), (am, zaG k 3 (gr3 r0 r1 r2)), (r0, zaJ k 3 fM0), (r1, zaJ k 3 fM1), (r2, zaJ k 3 fM2)], rfl, ⟨by rfl, rfl⟩, by rw [ht9]; exact hP9, hD9⟩, hS.F ht9⟩) hS.2.2 dX0_navigationComponent_49
set_option maxHeartbeats 4000000 in
set_option maxRecDepth 100000 in
theorem c_X0_turnIntoBody (l : Launch) (D : va_G) (k : Nat → ClassId) (sz : Nat) (h ap as1 ai ar am r0 r1 r2 : Nat) (nav hw : Nat) (fM0 fM1 fM2 fn fw : Nat → Int64) : Met l yX0_turnIntoBody wsX0_turnIntoBody ({ frames := 2, cells := 0, slots := 0, locals := 47 } : Room) (va_Pc [.ref h, .ref nav, .ref hw] (zPre D k [(h, .inr (0, [.ref ap, .ref as1, .ref ai, .ref ar, .ref am])), (am, zaG k 3 (gr3 r0 r1 r2)), (r0, zaJ k 3 fM0), (r1, zaJ k 3 fM1), (r2, zaJ k 3 fM2), (hw, zaJ k 3 fw)] sz (zTb nav 3 fn (va_A [(h, .inr (0, [.ref ap, .ref as1, .ref ai, .ref ar, .ref am])), (am, zaG k 3 (gr3 r0 r1 r2)), (r0, zaJ k 3 fM0), (r1, zaJ k 3 fM1), (r2, zaJ k 3 fM2), (hw, zaJ k 3 fw)] sz)))) (zQv D [(h, .inr (0, [.ref ap, .ref as1, .ref ai, .ref ar, .ref am])), (am, zaG k 3 (gr3 r0 r1 r2)), (r0, zaJ k 3 fM0), (r1, zaJ k 3 fM1), (r2, zaJ k 3 fM2), (hw, zaJ k 3 fw)] sz (fun w : va_W => w = [(h, .inr (0, [.ref ap, .ref as1, .ref ai, .ref ar, .ref am])), (am, zaG k 3 (gr3 r0 r1 r2)), (r0, zaJ k 3 fM0), (r1, zaJ k 3 fM1), (r2, zaJ k 3 fM2), (hw, zaJ k 3 (bodyr fM0 fM1 fM2 (fn 0) (fn 1) (fn 2)))])) 0 0 (va_A [(h, .inr (0, [.ref ap, .ref as1, .ref ai, .ref ar, .ref am])), (am, zaG k 3 (gr3 r0 r1 r2)), (r0, zaJ k 3 fM0), (r1, zaJ k 3 fM1), (r2, zaJ k 3 fM2), (hw, zaJ k 3 fw)] sz) := by
  refine Met.ofW (cc := cX0_turnIntoBody) (maxL := 4) (ret := none) (by decide) rfl ?_
  intro p e s m args below meth c s₁ B hml hv
  obtain ⟨rfl, hsz, hP, hK, hD0, hE⟩ := hv
  have hx := B.exec
  have hb := B.bytes
  have hr := B.returns
  have hts := atoms_spec (ws := wsX0_turnIntoBody) B.pre
  have hown : s.vm.findClass RX0 = some m.cls := findClass_of_methodNamed B.named
  have hlocks := B.notSynchronized
  subst hsz
  have hD := hD0.self (sz := s.heap.size)
  delta zQv zB
  generalize hAe : va_A [(h, .inr (0, [.ref ap, .ref as1, .ref ai, .ref ar, .ref am])), (am, zaG k 3 (gr3 r0 r1 r2)), (r0, zaJ k 3 fM0), (r1, zaJ k 3 fM1), (r2, zaJ k 3 fM2), (hw, zaJ k 3 fw)] s.heap.size = A at hD hE ⊢
  have hA : ∀ q : Nat, s.heap.size ≤ q → A q := fun q h => by rw [← hAe]; exact Or.inr h
  have hS : va_S A s.heap s.heap [] := va_S.rf
  have hl := lv_entry [.ref h, .ref nav, .ref hw] (n := 4) (Nat.le_of_ble_eq_true rfl)
  rw [lg_entry_eq]
  generalize (lg_sl [.ref h, .ref nav, .ref hw] ++ List.replicate (4 - (lg_sl [.ref h, .ref nav, .ref hw]).length) Slot.unset).toArray = ls at hl ⊢
  have hl : lv_has ls 4 [(0, .ref h), (1, .ref nav), (2, .ref hw)] := hl
  refine lv_iconst (v := 0) hx hb dX0_turnIntoBody_0 (by decide) ?_
  refine lv_istore_n (lv' := [(3, .int 0), (0, .ref h), (1, .ref nav), (2, .ref hw)]) hx hb dX0_turnIntoBody_1 rfl hl (by decide) rfl (fun ls hl => ?_)
  refine lv_iload_n hx hb dX0_turnIntoBody_2 rfl (lv_at hl 0 rfl) ?_
  refine lv_iconst (v := 3) hx hb dX0_turnIntoBody_3 (by decide) ?_
  refine lv_icmp_ge (tgt := 30) hx hb dX0_turnIntoBody_4 (by decide) (fun c => absurd c (by decide)) (fun _ => ?_)
  refine lv_aload_n hx hb dX0_turnIntoBody_7 rfl (lv_at hl 3 rfl) ?_
  refine lv_iload_n hx hb dX0_turnIntoBody_8 rfl (lv_at hl 0 rfl) ?_
  refine lv_aload_n hx hb dX0_turnIntoBody_9 rfl (lv_at hl 1 rfl) ?_
  refine lv_aload_n hx hb dX0_turnIntoBody_10 rfl (lv_at hl 2 rfl) ?_
  refine lv_iconst (v := 0) hx hb dX0_turnIntoBody_11 (by decide) ?_
  refine z_told hx hb hE hS 0 zx0 (by decide) (v := fn 0) rfl dX0_turnIntoBody_12 ?_
  refine lv_aload_n hx hb dX0_turnIntoBody_13 rfl (lv_at hl 2 rfl) ?_
  refine lv_iconst (v := 1) hx hb dX0_turnIntoBody_14 (by decide) ?_
  refine z_told hx hb hE hS 1 zx1 (by decide) (v := fn 1) rfl dX0_turnIntoBody_15 ?_
  refine lv_aload_n hx hb dX0_turnIntoBody_16 rfl (lv_at hl 2 rfl) ?_
  refine lv_iconst (v := 2) hx hb dX0_turnIntoBody_17 (by decide) ?_
  refine z_told hx hb hE hS 2 zx2 (by decide) (v := fn 2) rfl dX0_turnIntoBody_18 ?_
  refine lv_iload_n hx hb dX0_turnIntoBody_19 rfl (lv_at hl 0 rfl) ?_
  refine z_calll0 (wc := [(h, .inr (0, [.ref ap, .ref as1, .ref ai, .ref ar, .ref am])), (am, zaG k 3 (gr3 r0 r1 r2)), (r0, zaJ k 3 fM0), (r1, zaJ k 3 fM1), (r2, zaJ k 3 fM2)]) (wr := [(hw, zaJ k 3 fw)]) (va_runV (As := [.long (fn 0), .long (fn 1), .long (fn 2), .int 0]) (rest := [.int 0, .ref hw]) ⟨hx, hb, hml, hown, hts⟩ (c_X0_bodyComponent l D k s.heap.size h ap as1 ai ar am r0 r1 r2 fM0 fM1 fM2 (fn 0) (fn 1) (fn 2) 0 (by decide)) (cwV 4 hts gX0_turnIntoBody_X0_bodyComponent rfl rfl rfl (by decide +kernel) ⟨Nat.le_of_ble_eq_true rfl, Nat.le_of_ble_eq_true rfl⟩) (z_preV (wc := [(h, .inr (0, [.ref ap, .ref as1, .ref ai, .ref ar, .ref am])), (am, zaG k 3 (gr3 r0 r1 r2)), (r0, zaJ k 3 fM0), (r1, zaJ k 3 fM1), (r2, zaJ k 3 fM2)]) 0 0 hP hD hK [0, 1, 2, 3, 4] rfl rfl rfl rfl zb0 zp0) rfl rfl hl.1 rfl (lv_room (Nat.le_of_ble_eq_true rfl)) dX0_turnIntoBody_20 ⟨Nat.zero_le _, Nat.zero_le _⟩) hP hD hS hA [0, 1, 2, 3, 4] [5] rfl rfl rfl (by decide) (fun w H locs hF hP hD hS => ?_)
  subst hF
  have hP : va_P D vwCl [(hw, zaJ k 3 fw), (h, .inr (0, [.ref ap, .ref as1, .ref ai, .ref ar, .ref am])), (am, zaG k 3 (gr3 r0 r1 r2)), (r0, zaJ k 3 fM0), (r1, zaJ k 3 fM1), (r2, zaJ k 3 fM2)] H := hP
  have hD : va_D A [(hw, zaJ k 3 fw), (h, .inr (0, [.ref ap, .ref as1, .ref ai, .ref ar, .ref am])), (am, zaG k 3 (gr3 r0 r1 r2)), (r0, zaJ k 3 fM0), (r1, zaJ k 3 fM1), (r2, zaJ k 3 fM2)] := hD
  refine z_last hx hb hK hP hD hS 0 rfl 0 zx0 (by decide) (ws' := [(hw, zaJ k 3 (vp_updL fw 0 (bodyr fM0 fM1 fM2 (fn 0) (fn 1) (fn 2) 0))), (h, .inr (0, [.ref ap, .ref as1, .ref ai, .ref ar, .ref am])), (am, zaG k 3 (gr3 r0 r1 r2)), (r0, zaJ k 3 fM0), (r1, zaJ k 3 fM1), (r2, zaJ k 3 fM2)]) rfl dX0_turnIntoBody_23 (fun H locs hP hD hS => ?_)
  refine lv_iinc (v := 1) (lv' := [(3, .int 1), (0, .ref h), (1, .ref nav), (2, .ref hw)]) hx hb dX0_turnIntoBody_24 hl (k := 0) rfl (by decide) (by decide) rfl (fun ls hl => ?_)
  refine lv_goto (tgt := 2) hx hb dX0_turnIntoBody_27 (by decide) ?_
  refine lv_iload_n hx hb dX0_turnIntoBody_2 rfl (lv_at hl 0 rfl) ?_
  refine lv_iconst (v := 3) hx hb dX0_turnIntoBody_3 (by decide) ?_
  refine lv_icmp_ge (tgt := 30) hx hb dX0_turnIntoBody_4 (by decide) (fun c => absurd c (by decide)) (fun _ => ?_)
  refine lv_aload_n hx hb dX0_turnIntoBody_7 rfl (lv_at hl 3 rfl) ?_
  refine lv_iload_n hx hb dX0_turnIntoBody_8 rfl (lv_at hl 0 rfl) ?_
  refine lv_aload_n hx hb dX0_turnIntoBody_9 rfl (lv_at hl 1 rfl) ?_
  refine lv_aload_n hx hb dX0_turnIntoBody_10 rfl (lv_at hl 2 rfl) ?_
  refine lv_iconst (v := 0) hx hb dX0_turnIntoBody_11 (by decide) ?_
  refine z_told hx hb hE hS 0 zx0 (by decide) (v := fn 0) rfl dX0_turnIntoBody_12 ?_
  refine lv_aload_n hx hb dX0_turnIntoBody_13 rfl (lv_at hl 2 rfl) ?_
  refine lv_iconst (v := 1) hx hb dX0_turnIntoBody_14 (by decide) ?_
  refine z_told hx hb hE hS 1 zx1 (by decide) (v := fn 1) rfl dX0_turnIntoBody_15 ?_
  refine lv_aload_n hx hb dX0_turnIntoBody_16 rfl (lv_at hl 2 rfl) ?_
  refine lv_iconst (v := 2) hx hb dX0_turnIntoBody_17 (by decide) ?_
  refine z_told hx hb hE hS 2 zx2 (by decide) (v := fn 2) rfl dX0_turnIntoBody_18 ?_
  refine lv_iload_n hx hb dX0_turnIntoBody_19 rfl (lv_at hl 0 rfl) ?_
  refine z_calll0 (wc := [(h, .inr (0, [.ref ap, .ref as1, .ref ai, .ref ar, .ref am])), (am, zaG k 3 (gr3 r0 r1 r2)), (r0, zaJ k 3 fM0), (r1, zaJ k 3 fM1), (r2, zaJ k 3 fM2)]) (wr := [(hw, zaJ k 3 (vp_updL fw 0 (bodyr fM0 fM1 fM2 (fn 0) (fn 1) (fn 2) 0)))]) (va_runV (As := [.long (fn 0), .long (fn 1), .long (fn 2), .int 1]) (rest := [.int 1, .ref hw]) ⟨hx, hb, hml, hown, hts⟩ (c_X0_bodyComponent l D k H.size h ap as1 ai ar am r0 r1 r2 fM0 fM1 fM2 (fn 0) (fn 1) (fn 2) 1 (by decide)) (cwV 4 hts gX0_turnIntoBody_X0_bodyComponent rfl rfl rfl (by decide +kernel) ⟨Nat.le_of_ble_eq_true rfl, Nat.le_of_ble_eq_true rfl⟩) (z_preV (wc := [(h, .inr (0, [.ref ap, .ref as1, .ref ai, .ref ar, .ref am])), (am, zaG k 3 (gr3 r0 r1 r2)), (r0, zaJ k 3 fM0), (r1, zaJ k 3 fM1), (r2, zaJ k 3 fM2)]) 1 0 hP hD hK [1, 2, 3, 4, 5] rfl rfl rfl rfl zb0 zp0) rfl rfl hl.1 rfl (lv_room (Nat.le_of_ble_eq_true rfl)) dX0_turnIntoBody_20 ⟨Nat.zero_le _, Nat.zero_le _⟩) hP hD hS hA [1, 2, 3, 4, 5] [0] rfl rfl rfl (by decide) (fun w H locs hF hP hD hS => ?_)
  subst hF
  have hP : va_P D vwCl [(hw, zaJ k 3 (vp_updL fw 0 (bodyr fM0 fM1 fM2 (fn 0) (fn 1) (fn 2) 0))), (h, .inr (0, [.ref ap, .ref as1, .ref ai, .ref ar, .ref am])), (am, zaG k 3 (gr3 r0 r1 r2)), (r0, zaJ k 3 fM0), (r1, zaJ k 3 fM1), (r2, zaJ k 3 fM2)] H := hP
  have hD : va_D A [(hw, zaJ k 3 (vp_updL fw 0 (bodyr fM0 fM1 fM2 (fn 0) (fn 1) (fn 2) 0))), (h, .inr (0, [.ref ap, .ref as1, .ref ai, .ref ar, .ref am])), (am, zaG k 3 (gr3 r0 r1 r2)), (r0, zaJ k 3 fM0), (r1, zaJ k 3 fM1), (r2, zaJ k 3 fM2)] := hD
  refine z_last hx hb hK hP hD hS 0 rfl 1 zx1 (by decide) (ws' := [(hw, zaJ k 3 (vp_updL (vp_updL fw 0 (bodyr fM0 fM1 fM2 (fn 0) (fn 1) (fn 2) 0)) 1 (bodyr fM0 fM1 fM2 (fn 0) (fn 1) (fn 2) 1))), (h, .inr (0, [.ref ap, .ref as1, .ref ai, .ref ar, .ref am])), (am, zaG k 3 (gr3 r0 r1 r2)), (r0, zaJ k 3 fM0), (r1, zaJ k 3 fM1), (r2, zaJ k 3 fM2)]) rfl dX0_turnIntoBody_23 (fun H locs hP hD hS => ?_)
  refine lv_iinc (v := 2) (lv' := [(3, .int 2), (0, .ref h), (1, .ref nav), (2, .ref hw)]) hx hb dX0_turnIntoBody_24 hl (k := 0) rfl (by decide) (by decide) rfl (fun ls hl => ?_)
  refine lv_goto (tgt := 2) hx hb dX0_turnIntoBody_27 (by decide) ?_
  refine lv_iload_n hx hb dX0_turnIntoBody_2 rfl (lv_at hl 0 rfl) ?_
  refine lv_iconst (v := 3) hx hb dX0_turnIntoBody_3 (by decide) ?_
  refine lv_icmp_ge (tgt := 30) hx hb dX0_turnIntoBody_4 (by decide) (fun c => absurd c (by decide)) (fun _ => ?_)
  refine lv_aload_n hx hb dX0_turnIntoBody_7 rfl (lv_at hl 3 rfl) ?_
  refine lv_iload_n hx hb dX0_turnIntoBody_8 rfl (lv_at hl 0 rfl) ?_
  refine lv_aload_n hx hb dX0_turnIntoBody_9 rfl (lv_at hl 1 rfl) ?_
  refine lv_aload_n hx hb dX0_turnIntoBody_10 rfl (lv_at hl 2 rfl) ?_
  refine lv_iconst (v := 0) hx hb dX0_turnIntoBody_11 (by decide) ?_
  refine z_told hx hb hE hS 0 zx0 (by decide) (v := fn 0) rfl dX0_turnIntoBody_12 ?_
  refine lv_aload_n hx hb dX0_turnIntoBody_13 rfl (lv_at hl 2 rfl) ?_
  refine lv_iconst (v := 1) hx hb dX0_turnIntoBody_14 (by decide) ?_
  refine z_told hx hb hE hS 1 zx1 (by decide) (v := fn 1) rfl dX0_turnIntoBody_15 ?_
  refine lv_aload_n hx hb dX0_turnIntoBody_16 rfl (lv_at hl 2 rfl) ?_
  refine lv_iconst (v := 2) hx hb dX0_turnIntoBody_17 (by decide) ?_
  refine z_told hx hb hE hS 2 zx2 (by decide) (v := fn 2) rfl dX0_turnIntoBody_18 ?_
  refine lv_iload_n hx hb dX0_turnIntoBody_19 rfl (lv_at hl 0 rfl) ?_
  refine z_calll0 (wc := [(h, .inr (0, [.ref ap, .ref as1, .ref ai, .ref ar, .ref am])), (am, zaG k 3 (gr3 r0 r1 r2)), (r0, zaJ k 3 fM0), (r1, zaJ k 3 fM1), (r2, zaJ k 3 fM2)]) (wr := [(hw, zaJ k 3 (vp_updL (vp_updL fw 0 (bodyr fM0 fM1 fM2 (fn 0) (fn 1) (fn 2) 0)) 1 (bodyr fM0 fM1 fM2 (fn 0) (fn 1) (fn 2) 1)))]) (va_runV (As := [.long (fn 0), .long (fn 1), .long (fn 2), .int 2]) (rest := [.int 2, .ref hw]) ⟨hx, hb, hml, hown, hts⟩ (c_X0_bodyComponent l D k H.size h ap as1 ai ar am r0 r1 r2 fM0 fM1 fM2 (fn 0) (fn 1) (fn 2) 2 (by decide)) (cwV 4 hts gX0_turnIntoBody_X0_bodyComponent rfl rfl rfl (by decide +kernel) ⟨Nat.le_of_ble_eq_true rfl, Nat.le_of_ble_eq_true rfl⟩) (z_preV (wc := [(h, .inr (0, [.ref ap, .ref as1, .ref ai, .ref ar, .ref am])), (am, zaG k 3 (gr3 r0 r1 r2)), (r0, zaJ k 3 fM0), (r1, zaJ k 3 fM1), (r2, zaJ k 3 fM2)]) 1 0 hP hD hK [1, 2, 3, 4, 5] rfl rfl rfl rfl zb0 zp0) rfl rfl hl.1 rfl (lv_room (Nat.le_of_ble_eq_true rfl)) dX0_turnIntoBody_20 ⟨Nat.zero_le _, Nat.zero_le _⟩) hP hD hS hA [1, 2, 3, 4, 5] [0] rfl rfl rfl (by decide) (fun w H locs hF hP hD hS => ?_)
  subst hF
  have hP : va_P D vwCl [(hw, zaJ k 3 (vp_updL (vp_updL fw 0 (bodyr fM0 fM1 fM2 (fn 0) (fn 1) (fn 2) 0)) 1 (bodyr fM0 fM1 fM2 (fn 0) (fn 1) (fn 2) 1))), (h, .inr (0, [.ref ap, .ref as1, .ref ai, .ref ar, .ref am])), (am, zaG k 3 (gr3 r0 r1 r2)), (r0, zaJ k 3 fM0), (r1, zaJ k 3 fM1), (r2, zaJ k 3 fM2)] H := hP
  have hD : va_D A [(hw, zaJ k 3 (vp_updL (vp_updL fw 0 (bodyr fM0 fM1 fM2 (fn 0) (fn 1) (fn 2) 0)) 1 (bodyr fM0 fM1 fM2 (fn 0) (fn 1) (fn 2) 1))), (h, .inr (0, [.ref ap, .ref as1, .ref ai, .ref ar, .ref am])), (am, zaG k 3 (gr3 r0 r1 r2)), (r0, zaJ k 3 fM0), (r1, zaJ k 3 fM1), (r2, zaJ k 3 fM2)] := hD
  refine z_last hx hb hK hP hD hS 0 rfl 2 zx2 (by decide) (ws' := [(hw, zaJ k 3 (vp_updL (vp_updL (vp_updL fw 0 (bodyr fM0 fM1 fM2 (fn 0) (fn 1) (fn 2) 0)) 1 (bodyr fM0 fM1 fM2 (fn 0) (fn 1) (fn 2) 1)) 2 (bodyr fM0 fM1 fM2 (fn 0) (fn 1) (fn 2) 2))), (h, .inr (0, [.ref ap, .ref as1, .ref ai, .ref ar, .ref am])), (am, zaG k 3 (gr3 r0 r1 r2)), (r0, zaJ k 3 fM0), (r1, zaJ k 3 fM1), (r2, zaJ k 3 fM2)]) rfl dX0_turnIntoBody_23 (fun H locs hP hD hS => ?_)
  refine lv_iinc (v := 3) (lv' := [(3, .int 3), (0, .ref h), (1, .ref nav), (2, .ref hw)]) hx hb dX0_turnIntoBody_24 hl (k := 0) rfl (by decide) (by decide) rfl (fun ls hl => ?_)
  refine lv_goto (tgt := 2) hx hb dX0_turnIntoBody_27 (by decide) ?_
  refine lv_iload_n hx hb dX0_turnIntoBody_2 rfl (lv_at hl 0 rfl) ?_
  refine lv_iconst (v := 3) hx hb dX0_turnIntoBody_3 (by decide) ?_
  refine lv_icmp_ge (tgt := 30) hx hb dX0_turnIntoBody_4 (by decide) (fun _ => ?_) (fun c => absurd (by decide) c)
  have hP := z_congJ hP 0 rfl (g := bodyr fM0 fM1 fM2 (fn 0) (fn 1) (fn 2)) (zall3 (by rfl) (by rfl) (by rfl)) (ws' := [(hw, zaJ k 3 (bodyr fM0 fM1 fM2 (fn 0) (fn 1) (fn 2))), (h, .inr (0, [.ref ap, .ref as1, .ref ai, .ref ar, .ref am])), (am, zaG k 3 (gr3 r0 r1 r2)), (r0, zaJ k 3 fM0), (r1, zaJ k 3 fM1), (r2, zaJ k 3 fM2)]) rfl
  have hD := z_congDJ hD 0 rfl (g := bodyr fM0 fM1 fM2 (fn 0) (fn 1) (fn 2)) (ws' := [(hw, zaJ k 3 (bodyr fM0 fM1 fM2 (fn 0) (fn 1) (fn 2))), (h, .inr (0, [.ref ap, .ref as1, .ref ai, .ref ar, .ref am])), (am, zaG k 3 (gr3 r0 r1 r2)), (r0, zaJ k 3 fM0), (r1, zaJ k 3 fM1), (r2, zaJ k 3 fM2)]) rfl
  have hP9 := hP.sub (ws' := [(h, .inr (0, [.ref ap, .ref as1, .ref ai, .ref ar, .ref am])), (am, zaG k 3 (gr3 r0 r1 r2)), (r0, zaJ k 3 fM0), (r1, zaJ k 3 fM1), (r2, zaJ k 3 fM2), (hw, zaJ k 3 (bodyr fM0 fM1 fM2 (fn 0) (fn 1) (fn 2)))]) [1, 2, 3, 4, 5, 0] rfl
  have hD9 := hD.sub (ws' := [(h, .inr (0, [.ref ap, .ref as1, .ref ai, .ref ar, .ref am])), (am, zaG k 3 (gr3 r0 r1 r2)), (r0, zaJ k 3 fM0), (r1, zaJ k 3 fM1), (r2, zaJ k 3 fM2), (hw, zaJ k 3 (bodyr fM0 fM1 fM2 (fn 0) (fn 1) (fn 2)))]) [1, 2, 3, 4, 5, 0] (by decide) rfl
  exact W.vret hx hb hr (fun t9 ht9 hW9 => ⟨⟨[(h, .inr (0, [.ref ap, .ref as1, .ref ai, .ref ar, .ref am])), (am, zaG k 3 (gr3 r0 r1 r2)), (r0, zaJ k 3 fM0), (r1, zaJ k 3 fM1), (r2, zaJ k 3 fM2), (hw, zaJ k 3 (bodyr fM0 fM1 fM2 (fn 0) (fn 1) (fn 2)))], rfl, rfl, by rw [ht9]; exact hP9, hD9⟩, hS.F ht9⟩) hS.2.2 dX0_turnIntoBody_30
set_option maxHeartbeats 4000000 in
set_option maxRecDepth 100000 in
theorem c_X0_angleFrom (l : Launch) (D : va_G) (k : Nat → ClassId) (sz : Nat) (h ap as1 ai ar am r0 r1 r2 : Nat) (ho : Nat) (fP fS fI fR fM0 fM1 fM2 fo : Nat → Int64) (hq : (qang2 fo fP).toInt < 2 ^ 62) : Met l yX0_angleFrom wsX0_angleFrom ({ frames := 2, cells := 0, slots := 0, locals := 51 } : Room) (va_Pc [.ref h, .ref ho] (zPre D k [(h, .inr (0, [.ref ap, .ref as1, .ref ai, .ref ar, .ref am])), (ap, zaJ k 4 fP), (as1, zaJ k 4 fS), (ai, zaJ k 4 fI), (ar, zaJ k 4 fR), (ho, zaJ k 4 fo)] sz zX0)) (zQl D [(h, .inr (0, [.ref ap, .ref as1, .ref ai, .ref ar, .ref am])), (ap, zaJ k 4 fP), (as1, zaJ k 4 fS), (ai, zaJ k 4 fI), (ar, zaJ k 4 fR), (ho, zaJ k 4 fo)] sz (qang fo fP) (fun w : va_W => ∃ (fI2 fR2 : Nat → Int64), w = [(h, .inr (0, [.ref ap, .ref as1, .ref ai, .ref ar, .ref am])), (ap, zaJ k 4 fP), (as1, zaJ k 4 fS), (ai, zaJ k 4 fI2), (ar, zaJ k 4 fR2), (ho, zaJ k 4 fo)])) 0 0 (va_A [(h, .inr (0, [.ref ap, .ref as1, .ref ai, .ref ar, .ref am])), (ap, zaJ k 4 fP), (as1, zaJ k 4 fS), (ai, zaJ k 4 fI), (ar, zaJ k 4 fR), (ho, zaJ k 4 fo)] sz) := by
  refine Met.ofW (cc := cX0_angleFrom) (maxL := 2) (ret := (some .long)) (by decide) rfl ?_
  intro p e s m args below meth c s₁ B hml hv
  obtain ⟨rfl, hsz, hP, hK, hD0, hE⟩ := hv
  have hx := B.exec
  have hb := B.bytes
  have hr := B.returns
  have hts := atoms_spec (ws := wsX0_angleFrom) B.pre
  have hown : s.vm.findClass RX0 = some m.cls := findClass_of_methodNamed B.named
  have hlocks := B.notSynchronized
  subst hsz
  have hD := hD0.self (sz := s.heap.size)
  delta zQl zB
  generalize hAe : va_A [(h, .inr (0, [.ref ap, .ref as1, .ref ai, .ref ar, .ref am])), (ap, zaJ k 4 fP), (as1, zaJ k 4 fS), (ai, zaJ k 4 fI), (ar, zaJ k 4 fR), (ho, zaJ k 4 fo)] s.heap.size = A at hD hE ⊢
  have hA : ∀ q : Nat, s.heap.size ≤ q → A q := fun q h => by rw [← hAe]; exact Or.inr h
  have hS : va_S A s.heap s.heap [] := va_S.rf
  have hl := lv_entry [.ref h, .ref ho] (n := 2) (Nat.le_of_ble_eq_true rfl)
  rw [lg_entry_eq]
  generalize (lg_sl [.ref h, .ref ho] ++ List.replicate (2 - (lg_sl [.ref h, .ref ho]).length) Slot.unset).toArray = ls at hl ⊢
  have hl : lv_has ls 2 [(0, .ref h), (1, .ref ho)] := hl
  have hl18 : (Cond.fieldLink RX0 18 "InertialReference$Attitude" "inverse" "[J").before #[Value.ref h, Value.ref ho] s = true := zw hts 1 rfl
  have hinX0 : ∀ w ∈ u_ws RX0 TX0 5, w ∈ wsX0_angleFrom := fun w h => List.mem_cons_of_mem _ (List.mem_append_right _ h)
  have hl9 : (Cond.fieldLink RX0 9 "InertialReference$Attitude" "parts" "[J").before #[Value.ref h, Value.ref ho] s = true := zw hts 2 rfl
  have hl21 : (Cond.fieldLink RX0 21 "InertialReference$Attitude" "product" "[J").before #[Value.ref h, Value.ref ho] s = true := zw hts 3 rfl
  have hl68 : (Cond.constantLong RX0 68 (2)).before #[Value.ref h, Value.ref ho] s = true := zw hts 4 rfl
  refine lv_aload_n hx hb dX0_angleFrom_0 rfl (lv_at hl 0 rfl) ?_
  refine va_get (D := D) (ci := 0) (v := .ref ai) (C := RX0) (T := TX0) (N := 5) hx hb hts hinX0 hown hK hP 0 rfl rfl 2 (Nat.le_of_ble_eq_true rfl) hl18 (fun _ h9 => h9) rfl dX0_angleFrom_1 ?_
  refine lv_iconst (v := 0) hx hb dX0_angleFrom_4 (by decide) ?_
  refine lv_aload_n hx hb dX0_angleFrom_5 rfl (lv_at hl 1 rfl) ?_
  refine lv_iconst (v := 0) hx hb dX0_angleFrom_6 (by decide) ?_
  refine z_lald hx hb hK hP 5 rfl 0 zx0 (by decide) (v := fo 0) rfl dX0_angleFrom_7 ?_
  refine z_last hx hb hK hP hD hS 3 rfl 0 zx0 (by decide) (ws' := [(h, .inr (0, [.ref ap, .ref as1, .ref ai, .ref ar, .ref am])), (ap, zaJ k 4 fP), (as1, zaJ k 4 fS), (ai, zaJ k 4 (vp_updL fI 0 (fo 0))), (ar, zaJ k 4 fR), (ho, zaJ k 4 fo)]) rfl dX0_angleFrom_8 (fun H locs hP hD hS => ?_)
  refine lv_aload_n hx hb dX0_angleFrom_9 rfl (lv_at hl 0 rfl) ?_
  refine va_get (D := D) (ci := 0) (v := .ref ai) (C := RX0) (T := TX0) (N := 5) hx hb hts hinX0 hown hK hP 0 rfl rfl 2 (Nat.le_of_ble_eq_true rfl) hl18 (fun _ h9 => h9) rfl dX0_angleFrom_10 ?_
  refine lv_iconst (v := 1) hx hb dX0_angleFrom_13 (by decide) ?_
  refine lv_aload_n hx hb dX0_angleFrom_14 rfl (lv_at hl 1 rfl) ?_
  refine lv_iconst (v := 1) hx hb dX0_angleFrom_15 (by decide) ?_
  refine z_lald hx hb hK hP 5 rfl 1 zx1 (by decide) (v := fo 1) rfl dX0_angleFrom_16 ?_
  refine lv_lneg hx hb dX0_angleFrom_17 ?_
  refine z_last hx hb hK hP hD hS 3 rfl 1 zx1 (by decide) (ws' := [(h, .inr (0, [.ref ap, .ref as1, .ref ai, .ref ar, .ref am])), (ap, zaJ k 4 fP), (as1, zaJ k 4 fS), (ai, zaJ k 4 (vp_updL (vp_updL fI 0 (fo 0)) 1 (-(fo 1)))), (ar, zaJ k 4 fR), (ho, zaJ k 4 fo)]) rfl dX0_angleFrom_18 (fun H locs hP hD hS => ?_)
  refine lv_aload_n hx hb dX0_angleFrom_19 rfl (lv_at hl 0 rfl) ?_
  refine va_get (D := D) (ci := 0) (v := .ref ai) (C := RX0) (T := TX0) (N := 5) hx hb hts hinX0 hown hK hP 0 rfl rfl 2 (Nat.le_of_ble_eq_true rfl) hl18 (fun _ h9 => h9) rfl dX0_angleFrom_20 ?_
  refine lv_iconst (v := 2) hx hb dX0_angleFrom_23 (by decide) ?_
  refine lv_aload_n hx hb dX0_angleFrom_24 rfl (lv_at hl 1 rfl) ?_
  refine lv_iconst (v := 2) hx hb dX0_angleFrom_25 (by decide) ?_
  refine z_lald hx hb hK hP 5 rfl 2 zx2 (by decide) (v := fo 2) rfl dX0_angleFrom_26 ?_
  refine lv_lneg hx hb dX0_angleFrom_27 ?_
  refine z_last hx hb hK hP hD hS 3 rfl 2 zx2 (by decide) (ws' := [(h, .inr (0, [.ref ap, .ref as1, .ref ai, .ref ar, .ref am])), (ap, zaJ k 4 fP), (as1, zaJ k 4 fS), (ai, zaJ k 4 (vp_updL (vp_updL (vp_updL fI 0 (fo 0)) 1 (-(fo 1))) 2 (-(fo 2)))), (ar, zaJ k 4 fR), (ho, zaJ k 4 fo)]) rfl dX0_angleFrom_28 (fun H locs hP hD hS => ?_)
  refine lv_aload_n hx hb dX0_angleFrom_29 rfl (lv_at hl 0 rfl) ?_
  refine va_get (D := D) (ci := 0) (v := .ref ai) (C := RX0) (T := TX0) (N := 5) hx hb hts hinX0 hown hK hP 0 rfl rfl 2 (Nat.le_of_ble_eq_true rfl) hl18 (fun _ h9 => h9) rfl dX0_angleFrom_30 ?_
  refine lv_iconst (v := 3) hx hb dX0_angleFrom_33 (by decide) ?_
  refine lv_aload_n hx hb dX0_angleFrom_34 rfl (lv_at hl 1 rfl) ?_
  refine lv_iconst (v := 3) hx hb dX0_angleFrom_35 (by decide) ?_
  refine z_lald hx hb hK hP 5 rfl 3 zx3 (by decide) (v := fo 3) rfl dX0_angleFrom_36 ?_
  refine lv_lneg hx hb dX0_angleFrom_37 ?_
  refine z_last hx hb hK hP hD hS 3 rfl 3 zx3 (by decide) (ws' := [(h, .inr (0, [.ref ap, .ref as1, .ref ai, .ref ar, .ref am])), (ap, zaJ k 4 fP), (as1, zaJ k 4 fS), (ai, zaJ k 4 (vp_updL (vp_updL (vp_updL (vp_updL fI 0 (fo 0)) 1 (-(fo 1))) 2 (-(fo 2))) 3 (-(fo 3)))), (ar, zaJ k 4 fR), (ho, zaJ k 4 fo)]) rfl dX0_angleFrom_38 (fun H locs hP hD hS => ?_)
  have hP := z_congJ hP 3 rfl (g := qconj fo) (zall4 (by first | rfl | (simp only []; rfl)) (by first | rfl | (simp only []; rfl)) (by first | rfl | (simp only []; rfl)) (by first | rfl | (simp only []; rfl))) (ws' := [(h, .inr (0, [.ref ap, .ref as1, .ref ai, .ref ar, .ref am])), (ap, zaJ k 4 fP), (as1, zaJ k 4 fS), (ai, zaJ k 4 (qconj fo)), (ar, zaJ k 4 fR), (ho, zaJ k 4 fo)]) rfl
  have hD := z_congDJ hD 3 rfl (g := qconj fo) (ws' := [(h, .inr (0, [.ref ap, .ref as1, .ref ai, .ref ar, .ref am])), (ap, zaJ k 4 fP), (as1, zaJ k 4 fS), (ai, zaJ k 4 (qconj fo)), (ar, zaJ k 4 fR), (ho, zaJ k 4 fo)]) rfl
  refine lv_aload_n hx hb dX0_angleFrom_39 rfl (lv_at hl 0 rfl) ?_
  refine va_get (D := D) (ci := 0) (v := .ref ai) (C := RX0) (T := TX0) (N := 5) hx hb hts hinX0 hown hK hP 0 rfl rfl 2 (Nat.le_of_ble_eq_true rfl) hl18 (fun _ h9 => h9) rfl dX0_angleFrom_40 ?_
  refine lv_aload_n hx hb dX0_angleFrom_43 rfl (lv_at hl 0 rfl) ?_
  refine va_get (D := D) (ci := 0) (v := .ref ap) (C := RX0) (T := TX0) (N := 5) hx hb hts hinX0 hown hK hP 0 rfl rfl 0 (Nat.le_of_ble_eq_true rfl) hl9 (fun _ h9 => h9) rfl dX0_angleFrom_44 ?_
  refine lv_aload_n hx hb dX0_angleFrom_47 rfl (lv_at hl 0 rfl) ?_
  refine va_get (D := D) (ci := 0) (v := .ref ar) (C := RX0) (T := TX0) (N := 5) hx hb hts hinX0 hown hK hP 0 rfl rfl 3 (Nat.le_of_ble_eq_true rfl) hl21 (fun _ h9 => h9) rfl dX0_angleFrom_48 ?_
  refine z_callv0 (wc := [(ai, zaJ k 4 (qconj fo)), (ap, zaJ k 4 fP), (ar, zaJ k 4 fR)]) (wr := [(h, .inr (0, [.ref ap, .ref as1, .ref ai, .ref ar, .ref am])), (as1, zaJ k 4 fS), (ho, zaJ k 4 fo)]) (va_runS (As := [.ref ai, .ref ap, .ref ar]) (rest := []) ⟨hx, hb, hml, hown, hts⟩ (c_X0_multiply l D k H.size ai ap ar (qconj fo) fP fR) (va_cwS 3 hts gX0_angleFrom_X0_multiply rfl rfl rfl (by decide +kernel) ⟨Nat.le_of_ble_eq_true rfl, Nat.le_of_ble_eq_true rfl⟩) (z_preS (wc := [(ai, zaJ k 4 (qconj fo)), (ap, zaJ k 4 fP), (ar, zaJ k 4 fR)]) hP hD hK [3, 1, 4] rfl rfl zb0 zp0) rfl rfl hl.1 rfl (lv_room (Nat.le_of_ble_eq_true rfl)) dX0_angleFrom_51 ⟨Nat.zero_le _, Nat.zero_le _⟩) hP hD hS hA [3, 1, 4] [0, 2, 5] rfl rfl rfl (by decide) (fun w H locs hF hP hD hS => ?_)
  subst hF
  have hP : va_P D vwCl [(h, .inr (0, [.ref ap, .ref as1, .ref ai, .ref ar, .ref am])), (as1, zaJ k 4 fS), (ho, zaJ k 4 fo), (ai, zaJ k 4 (qconj fo)), (ap, zaJ k 4 fP), (ar, zaJ k 4 (qmul (qconj fo) fP))] H := hP
  have hD : va_D A [(h, .inr (0, [.ref ap, .ref as1, .ref ai, .ref ar, .ref am])), (as1, zaJ k 4 fS), (ho, zaJ k 4 fo), (ai, zaJ k 4 (qconj fo)), (ap, zaJ k 4 fP), (ar, zaJ k 4 (qmul (qconj fo) fP))] := hD
  refine lv_ldc2 hx hb hown hl68 dX0_angleFrom_54 ?_
  refine lv_aload_n hx hb dX0_angleFrom_57 rfl (lv_at hl 0 rfl) ?_
  refine va_get (D := D) (ci := 0) (v := .ref ar) (C := RX0) (T := TX0) (N := 5) hx hb hts hinX0 hown hK hP 0 rfl rfl 3 (Nat.le_of_ble_eq_true rfl) hl21 (fun _ h9 => h9) rfl dX0_angleFrom_58 ?_
  refine lv_iconst (v := 1) hx hb dX0_angleFrom_61 (by decide) ?_
  refine z_lald hx hb hK hP 5 rfl 1 zx1 (by decide) (v := (qmul (qconj fo) fP) 1) rfl dX0_angleFrom_62 ?_
  refine lv_aload_n hx hb dX0_angleFrom_63 rfl (lv_at hl 0 rfl) ?_
  refine va_get (D := D) (ci := 0) (v := .ref ar) (C := RX0) (T := TX0) (N := 5) hx hb hts hinX0 hown hK hP 0 rfl rfl 3 (Nat.le_of_ble_eq_true rfl) hl21 (fun _ h9 => h9) rfl dX0_angleFrom_64 ?_
  refine lv_iconst (v := 2) hx hb dX0_angleFrom_67 (by decide) ?_
  refine z_lald hx hb hK hP 5 rfl 2 zx2 (by decide) (v := (qmul (qconj fo) fP) 2) rfl dX0_angleFrom_68 ?_
  refine lv_aload_n hx hb dX0_angleFrom_69 rfl (lv_at hl 0 rfl) ?_
  refine va_get (D := D) (ci := 0) (v := .ref ar) (C := RX0) (T := TX0) (N := 5) hx hb hts hinX0 hown hK hP 0 rfl rfl 3 (Nat.le_of_ble_eq_true rfl) hl21 (fun _ h9 => h9) rfl dX0_angleFrom_70 ?_
  refine lv_iconst (v := 3) hx hb dX0_angleFrom_73 (by decide) ?_
  refine z_lald hx hb hK hP 5 rfl 3 zx3 (by decide) (v := (qmul (qconj fo) fP) 3) rfl dX0_angleFrom_74 ?_
  refine z_calll0 (wc := []) (wr := [(h, .inr (0, [.ref ap, .ref as1, .ref ai, .ref ar, .ref am])), (as1, zaJ k 4 fS), (ho, zaJ k 4 fo), (ai, zaJ k 4 (qconj fo)), (ap, zaJ k 4 fP), (ar, zaJ k 4 (qmul (qconj fo) fP))]) (va_runS (As := [.long ((qmul (qconj fo) fP) 1), .long ((qmul (qconj fo) fP) 2), .long ((qmul (qconj fo) fP) 3)]) (rest := [.long 2]) ⟨hx, hb, hml, hown, hts⟩ (c_X5_length l D k H.size (qdiff fo fP 1) (qdiff fo fP 2) (qdiff fo fP 3) hq) (va_cwS 3 hts gX0_angleFrom_X5_length rfl rfl rfl (by decide +kernel) ⟨Nat.le_of_ble_eq_true rfl, Nat.le_of_ble_eq_true rfl⟩) (z_preS (wc := []) hP hD hK [] rfl rfl zb0 zp0) rfl rfl hl.1 rfl (lv_room (Nat.le_of_ble_eq_true rfl)) dX0_angleFrom_75 ⟨Nat.zero_le _, Nat.zero_le _⟩) hP hD hS hA [] [0, 1, 2, 3, 4, 5] rfl rfl rfl (by decide) (fun w H locs hF hP hD hS => ?_)
  subst hF
  have hP : va_P D vwCl [(h, .inr (0, [.ref ap, .ref as1, .ref ai, .ref ar, .ref am])), (as1, zaJ k 4 fS), (ho, zaJ k 4 fo), (ai, zaJ k 4 (qconj fo)), (ap, zaJ k 4 fP), (ar, zaJ k 4 (qmul (qconj fo) fP))] H := hP
  have hD : va_D A [(h, .inr (0, [.ref ap, .ref as1, .ref ai, .ref ar, .ref am])), (as1, zaJ k 4 fS), (ho, zaJ k 4 fo), (ai, zaJ k 4 (qconj fo)), (ap, zaJ k 4 fP), (ar, zaJ k 4 (qmul (qconj fo) fP))] := hD
  refine lv_lmul hx hb dX0_angleFrom_78 ?_
  have hP9 := hP.sub (ws' := [(h, .inr (0, [.ref ap, .ref as1, .ref ai, .ref ar, .ref am])), (ap, zaJ k 4 fP), (as1, zaJ k 4 fS), (ai, zaJ k 4 (qconj fo)), (ar, zaJ k 4 (qmul (qconj fo) fP)), (ho, zaJ k 4 fo)]) [0, 4, 1, 3, 5, 2] rfl
  have hD9 := hD.sub (ws' := [(h, .inr (0, [.ref ap, .ref as1, .ref ai, .ref ar, .ref am])), (ap, zaJ k 4 fP), (as1, zaJ k 4 fS), (ai, zaJ k 4 (qconj fo)), (ar, zaJ k 4 (qmul (qconj fo) fP)), (ho, zaJ k 4 fo)]) [0, 4, 1, 3, 5, 2] (by decide) rfl
  exact W.lret (v := 2 * (isq (sq3 (qdiff fo fP 1) (qdiff fo fP 2) (qdiff fo fP 3)))) hx hb hr (fun t9 ht9 hW9 => ⟨⟨(2 * (isq (sq3 (qdiff fo fP 1) (qdiff fo fP 2) (qdiff fo fP 3)))), [(h, .inr (0, [.ref ap, .ref as1, .ref ai, .ref ar, .ref am])), (ap, zaJ k 4 fP), (as1, zaJ k 4 fS), (ai, zaJ k 4 (qconj fo)), (ar, zaJ k 4 (qmul (qconj fo) fP)), (ho, zaJ k 4 fo)], rfl, ⟨by rfl, ⟨(qconj fo), (qmul (qconj fo) fP), rfl⟩⟩, by rw [ht9]; exact hP9, hD9⟩, hS.F ht9⟩) hS.2.2 dX0_angleFrom_79
