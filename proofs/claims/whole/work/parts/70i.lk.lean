section SV9
variable {p : Program} {l : Launch} {e : Env} {R : Room} {s : State} {m : MethodId} {args : Array Value} {below : List Frame} {meth : Method} {c : Code} {H : Heap} {locs : List Loc} {cells slots : Nat}
variable {y : MethodName} {bytes cc : ByteArray} {maxL nL mc ms n index : Nat} {ret : Option FieldType} {ws : List Cond} {rm : Room} {Pc : Array Value → State → Prop} {Qc : Array Value → State → Outcome → State → Prop} {free : Addr → Prop} {Ts : List Cond} {own C : String} {b : Addr} {As rest : List Value} {g : JFrame}
/-- a virtual call with nine words below its arguments -/
theorem sv_runV9 (hlo : 9 + (maxL + 11) + rm.locals ≤ R.locals) (S : CallFix p m c cc nL s args Ts own) (hM : Met l y ws rm Pc Qc mc ms free) (cw : CallW R s args own C index y bytes maxL ret ws rm mc ms n) (hp : PreV s H C b Pc As)
    (hg : g.method = m) (hn : As.length = n) (hsize : g.locals.size = nL) (hstack : g.stack = As.reverse ++ .ref b :: rest) (hW : 2 * g.monitorRoom + (rest.map fun v => v.category).sum ≤ 9) (hdg : decode cc g.pc = .ok (.invokevirtual index, 3)) (hf : cells + mc ≤ R.cells ∧ slots + ms ≤ R.slots) :
    va_Run p l e R s m args below meth c H locs cells slots mc ms g rest (Qc (Value.ref b :: As).toArray) (free) := by
  obtain ⟨⟨hrc, hrs, hfr, -, hws, hcw, hcode, hini, hy, hlen, hl⟩, hin, hse⟩ := cw
  have hK : Back l R p e below s args y 3 9 (PreOf R mc ms Pc) (PostOf Qc mc ms free) := back_of (bytes := bytes) (maxL := maxL) (ret := ret) hM hp.1 hrc hrs hfr hlo hws hcw (fun a' U hW => word_at hW (Or.inl (by first | rfl | simp [Cond.onTables, Cond.keeps, Cond.steady])) hini)
  obtain ⟨hx, hb, hml, ho, -⟩ := S
  obtain ⟨-, ⟨cellB, hcB, hoB, hclB⟩, hPc⟩ := hp
  intro T hT X
  obtain ⟨v, vm₁, ⟨U', l2, c2, s2⟩, hW₁, X', ⟨g', mk, t, L, e1, e2, hq, h1, hL, h2, h3⟩, st⟩ := callV X hx (C := C) (bytes := bytes) (maxL := maxL) (ret := ret) ho hl hin hse hcode hy hK (by rw [hT]; exact hcB) hoB hclB hg (hsize.trans hml.symm) (argsL := As) (rest := rest) (fun sig h => hn.trans (hlen sig h)) hstack hW (by rw [hb]; exact hdg)
    (fun vm₁ hW₁ => ⟨hf.1, hf.2, hPc (T.setVm vm₁) hT hW₁⟩)
  dsimp only [Pt.U, Pt.locs, Pt.cells, Pt.slots] at X' e1 e2 h1 h2 h3 st
  subst h1; subst h2; subst h3
  exact ⟨v, (T.setVm vm₁).calling g' mk (Value.ref b :: As).toArray, t, U', L, hT, X', hL, e1, e2, hq, st⟩
end SV9

theorem dX12_pixelAt_0 : decode cX12_pixelAt 0 = .ok (.aload_n 0, 1) := by decide +kernel
theorem dX12_pixelAt_1 : decode cX12_pixelAt 1 = .ok (.iload_n 1, 1) := by decide +kernel
theorem dX12_pixelAt_2 : decode cX12_pixelAt 2 = .ok (.invokevirtual 223, 3) := by decide +kernel
theorem dX12_pixelAt_5 : decode cX12_pixelAt 5 = .ok (.ifCond .eq 13, 3) := by decide +kernel
theorem dX12_pixelAt_8 : decode cX12_pixelAt 8 = .ok (.iload_n 2, 1) := by decide +kernel
theorem dX12_pixelAt_9 : decode cX12_pixelAt 9 = .ok (.ifCond .lt 9, 3) := by decide +kernel
theorem dX12_pixelAt_12 : decode cX12_pixelAt 12 = .ok (.iload_n 2, 1) := by decide +kernel
theorem dX12_pixelAt_13 : decode cX12_pixelAt 13 = .ok (.bipush 48, 2) := by decide +kernel
theorem dX12_pixelAt_15 : decode cX12_pixelAt 15 = .ok (.if_icmp .lt 5, 3) := by decide +kernel
theorem dX12_pixelAt_18 : decode cX12_pixelAt 18 = .ok (.iconst (-1), 1) := by decide +kernel
theorem dX12_pixelAt_19 : decode cX12_pixelAt 19 = .ok (.ireturn, 1) := by decide +kernel
theorem dX12_pixelAt_20 : decode cX12_pixelAt 20 = .ok (.aload_n 0, 1) := by decide +kernel
theorem dX12_pixelAt_21 : decode cX12_pixelAt 21 = .ok (.getfield 62, 3) := by decide +kernel
theorem dX12_pixelAt_24 : decode cX12_pixelAt 24 = .ok (.aload_n 0, 1) := by decide +kernel
theorem dX12_pixelAt_25 : decode cX12_pixelAt 25 = .ok (.getfield 53, 3) := by decide +kernel
theorem dX12_pixelAt_28 : decode cX12_pixelAt 28 = .ok (.iload_n 1, 1) := by decide +kernel
theorem dX12_pixelAt_29 : decode cX12_pixelAt 29 = .ok (.invokevirtual 226, 3) := by decide +kernel
theorem dX12_pixelAt_32 : decode cX12_pixelAt 32 = .ok (.aload_n 0, 1) := by decide +kernel
theorem dX12_pixelAt_33 : decode cX12_pixelAt 33 = .ok (.getfield 62, 3) := by decide +kernel
theorem dX12_pixelAt_36 : decode cX12_pixelAt 36 = .ok (.getfield 230, 3) := by decide +kernel
theorem dX12_pixelAt_39 : decode cX12_pixelAt 39 = .ok (.iload_n 2, 1) := by decide +kernel
theorem dX12_pixelAt_40 : decode cX12_pixelAt 40 = .ok (.iaload, 1) := by decide +kernel
theorem dX12_pixelAt_41 : decode cX12_pixelAt 41 = .ok (.ireturn, 1) := by decide +kernel
theorem dX17_isPixel_0 : decode cX17_isPixel 0 = .ok (.aload_n 0, 1) := by decide +kernel
theorem dX17_isPixel_1 : decode cX17_isPixel 1 = .ok (.getfield 77, 3) := by decide +kernel
theorem dX17_isPixel_4 : decode cX17_isPixel 4 = .ok (.ifCond .eq 27, 3) := by decide +kernel
theorem dX17_isPixel_7 : decode cX17_isPixel 7 = .ok (.iload_n 1, 1) := by decide +kernel
theorem dX17_isPixel_8 : decode cX17_isPixel 8 = .ok (.ifCond .lt 23, 3) := by decide +kernel
theorem dX17_isPixel_11 : decode cX17_isPixel 11 = .ok (.iload_n 1, 1) := by decide +kernel
theorem dX17_isPixel_12 : decode cX17_isPixel 12 = .ok (.bipush 64, 2) := by decide +kernel
theorem dX17_isPixel_14 : decode cX17_isPixel 14 = .ok (.if_icmp .ge 17, 3) := by decide +kernel
theorem dX17_isPixel_17 : decode cX17_isPixel 17 = .ok (.iload_n 2, 1) := by decide +kernel
theorem dX17_isPixel_18 : decode cX17_isPixel 18 = .ok (.ifCond .lt 13, 3) := by decide +kernel
theorem dX17_isPixel_21 : decode cX17_isPixel 21 = .ok (.iload_n 2, 1) := by decide +kernel
theorem dX17_isPixel_22 : decode cX17_isPixel 22 = .ok (.bipush 48, 2) := by decide +kernel
theorem dX17_isPixel_24 : decode cX17_isPixel 24 = .ok (.if_icmp .ge 7, 3) := by decide +kernel
theorem dX17_isPixel_27 : decode cX17_isPixel 27 = .ok (.iconst 1, 1) := by decide +kernel
theorem dX17_isPixel_28 : decode cX17_isPixel 28 = .ok (.goto 4, 3) := by decide +kernel
theorem dX17_isPixel_31 : decode cX17_isPixel 31 = .ok (.iconst 0, 1) := by decide +kernel
theorem dX17_isPixel_32 : decode cX17_isPixel 32 = .ok (.ireturn, 1) := by decide +kernel
theorem dX17_rowOf_0 : decode cX17_rowOf 0 = .ok (.ldc2_w 226, 3) := by decide +kernel
theorem dX17_rowOf_3 : decode cX17_rowOf 3 = .ok (.iload_n 1, 1) := by decide +kernel
theorem dX17_rowOf_4 : decode cX17_rowOf 4 = .ok (.aload_n 0, 1) := by decide +kernel
theorem dX17_rowOf_5 : decode cX17_rowOf 5 = .ok (.invokevirtual 228, 3) := by decide +kernel
theorem dX17_rowOf_8 : decode cX17_rowOf 8 = .ok (.isub, 1) := by decide +kernel
theorem dX17_rowOf_9 : decode cX17_rowOf 9 = .ok (.i2l, 1) := by decide +kernel
theorem dX17_rowOf_10 : decode cX17_rowOf 10 = .ok (.aload_n 0, 1) := by decide +kernel
theorem dX17_rowOf_11 : decode cX17_rowOf 11 = .ok (.getfield 201, 3) := by decide +kernel
theorem dX17_rowOf_14 : decode cX17_rowOf 14 = .ok (.lmul, 1) := by decide +kernel
theorem dX17_rowOf_15 : decode cX17_rowOf 15 = .ok (.ldc2_w 231, 3) := by decide +kernel
theorem dX17_rowOf_18 : decode cX17_rowOf 18 = .ok (.aload_n 0, 1) := by decide +kernel
theorem dX17_rowOf_19 : decode cX17_rowOf 19 = .ok (.getfield 198, 3) := by decide +kernel
theorem dX17_rowOf_22 : decode cX17_rowOf 22 = .ok (.lmul, 1) := by decide +kernel
theorem dX17_rowOf_23 : decode cX17_rowOf 23 = .ok (.invokestatic 233, 3) := by decide +kernel
theorem dX17_rowOf_26 : decode cX17_rowOf 26 = .ok (.lsub, 1) := by decide +kernel
theorem dX17_rowOf_27 : decode cX17_rowOf 27 = .ok (.lstore 4, 2) := by decide +kernel
theorem dX17_rowOf_29 : decode cX17_rowOf 29 = .ok (.lload 4, 2) := by decide +kernel
theorem dX17_rowOf_31 : decode cX17_rowOf 31 = .ok (.iload_n 2, 1) := by decide +kernel
theorem dX17_rowOf_32 : decode cX17_rowOf 32 = .ok (.i2l, 1) := by decide +kernel
theorem dX17_rowOf_33 : decode cX17_rowOf 33 = .ok (.lcmp, 1) := by decide +kernel
theorem dX17_rowOf_34 : decode cX17_rowOf 34 = .ok (.ifCond .ge 7, 3) := by decide +kernel
theorem dX17_rowOf_37 : decode cX17_rowOf 37 = .ok (.iload_n 2, 1) := by decide +kernel
theorem dX17_rowOf_38 : decode cX17_rowOf 38 = .ok (.goto 18, 3) := by decide +kernel
theorem dX17_rowOf_41 : decode cX17_rowOf 41 = .ok (.lload 4, 2) := by decide +kernel
theorem dX17_rowOf_43 : decode cX17_rowOf 43 = .ok (.iload_n 3, 1) := by decide +kernel
theorem dX17_rowOf_44 : decode cX17_rowOf 44 = .ok (.i2l, 1) := by decide +kernel
theorem dX17_rowOf_45 : decode cX17_rowOf 45 = .ok (.lcmp, 1) := by decide +kernel
theorem dX17_rowOf_46 : decode cX17_rowOf 46 = .ok (.ifCond .le 7, 3) := by decide +kernel
theorem dX17_rowOf_49 : decode cX17_rowOf 49 = .ok (.iload_n 3, 1) := by decide +kernel
theorem dX17_rowOf_50 : decode cX17_rowOf 50 = .ok (.goto 6, 3) := by decide +kernel
theorem dX17_rowOf_53 : decode cX17_rowOf 53 = .ok (.lload 4, 2) := by decide +kernel
theorem dX17_rowOf_55 : decode cX17_rowOf 55 = .ok (.l2i, 1) := by decide +kernel
theorem dX17_rowOf_56 : decode cX17_rowOf 56 = .ok (.ireturn, 1) := by decide +kernel
theorem dX14_texture_0 : decode cX14_texture 0 = .ok (.aload_n 0, 1) := by decide +kernel
theorem dX14_texture_1 : decode cX14_texture 1 = .ok (.iconst 4, 1) := by decide +kernel
theorem dX14_texture_2 : decode cX14_texture 2 = .ok (.iload_n 1, 1) := by decide +kernel
theorem dX14_texture_3 : decode cX14_texture 3 = .ok (.invokevirtual 112, 3) := by decide +kernel
theorem dX14_texture_6 : decode cX14_texture 6 = .ok (.ifCond .eq 7, 3) := by decide +kernel
theorem dX14_texture_9 : decode cX14_texture 9 = .ok (.iload_n 2, 1) := by decide +kernel
theorem dX14_texture_10 : decode cX14_texture 10 = .ok (.ifCond .ge 5, 3) := by decide +kernel
theorem dX14_texture_13 : decode cX14_texture 13 = .ok (.iconst (-1), 1) := by decide +kernel
theorem dX14_texture_14 : decode cX14_texture 14 = .ok (.ireturn, 1) := by decide +kernel
theorem dX14_texture_15 : decode cX14_texture 15 = .ok (.aload_n 0, 1) := by decide +kernel
theorem dX14_texture_16 : decode cX14_texture 16 = .ok (.iload_n 1, 1) := by decide +kernel
theorem dX14_texture_17 : decode cX14_texture 17 = .ok (.invokevirtual 106, 3) := by decide +kernel
theorem dX14_texture_20 : decode cX14_texture 20 = .ok (.istore_n 3, 1) := by decide +kernel
theorem dX14_texture_21 : decode cX14_texture 21 = .ok (.iconst 1, 1) := by decide +kernel
theorem dX14_texture_22 : decode cX14_texture 22 = .ok (.aload_n 0, 1) := by decide +kernel
theorem dX14_texture_23 : decode cX14_texture 23 = .ok (.getfield 15, 3) := by decide +kernel
theorem dX14_texture_26 : decode cX14_texture 26 = .ok (.iload_n 3, 1) := by decide +kernel
theorem dX14_texture_27 : decode cX14_texture 27 = .ok (.baload, 1) := by decide +kernel
theorem dX14_texture_28 : decode cX14_texture 28 = .ok (.ishl, 1) := by decide +kernel
theorem dX14_texture_29 : decode cX14_texture 29 = .ok (.istore 4, 2) := by decide +kernel
theorem dX14_texture_31 : decode cX14_texture 31 = .ok (.iconst 1, 1) := by decide +kernel
theorem dX14_texture_32 : decode cX14_texture 32 = .ok (.aload_n 0, 1) := by decide +kernel
theorem dX14_texture_33 : decode cX14_texture 33 = .ok (.getfield 15, 3) := by decide +kernel
theorem dX14_texture_36 : decode cX14_texture 36 = .ok (.iload_n 3, 1) := by decide +kernel
theorem dX14_texture_37 : decode cX14_texture 37 = .ok (.iconst 1, 1) := by decide +kernel
theorem dX14_texture_38 : decode cX14_texture 38 = .ok (.iadd, 1) := by decide +kernel
theorem dX14_texture_39 : decode cX14_texture 39 = .ok (.baload, 1) := by decide +kernel
theorem dX14_texture_40 : decode cX14_texture 40 = .ok (.ishl, 1) := by decide +kernel
theorem dX14_texture_41 : decode cX14_texture 41 = .ok (.istore 5, 2) := by decide +kernel
theorem dX14_texture_43 : decode cX14_texture 43 = .ok (.iload_n 2, 1) := by decide +kernel
theorem dX14_texture_44 : decode cX14_texture 44 = .ok (.iconst 2, 1) := by decide +kernel
theorem dX14_texture_45 : decode cX14_texture 45 = .ok (.if_icmp .ge 15, 3) := by decide +kernel
theorem dX14_texture_48 : decode cX14_texture 48 = .ok (.iload_n 2, 1) := by decide +kernel
theorem dX14_texture_49 : decode cX14_texture 49 = .ok (.ifCond .ne 8, 3) := by decide +kernel
theorem dX14_texture_52 : decode cX14_texture 52 = .ok (.iload 4, 2) := by decide +kernel
theorem dX14_texture_54 : decode cX14_texture 54 = .ok (.goto 5, 3) := by decide +kernel
theorem dX14_texture_57 : decode cX14_texture 57 = .ok (.iload 5, 2) := by decide +kernel
theorem dX14_texture_59 : decode cX14_texture 59 = .ok (.ireturn, 1) := by decide +kernel
theorem dX14_texture_60 : decode cX14_texture 60 = .ok (.iload_n 2, 1) := by decide +kernel
theorem dX14_texture_61 : decode cX14_texture 61 = .ok (.iconst 2, 1) := by decide +kernel
theorem dX14_texture_62 : decode cX14_texture 62 = .ok (.isub, 1) := by decide +kernel
theorem dX14_texture_63 : decode cX14_texture 63 = .ok (.bipush 16, 2) := by decide +kernel
theorem dX14_texture_65 : decode cX14_texture 65 = .ok (.idiv, 1) := by decide +kernel
theorem dX14_texture_66 : decode cX14_texture 66 = .ok (.istore 6, 2) := by decide +kernel
theorem dX14_texture_68 : decode cX14_texture 68 = .ok (.iload_n 2, 1) := by decide +kernel
theorem dX14_texture_69 : decode cX14_texture 69 = .ok (.iconst 2, 1) := by decide +kernel
theorem dX14_texture_70 : decode cX14_texture 70 = .ok (.isub, 1) := by decide +kernel
theorem dX14_texture_71 : decode cX14_texture 71 = .ok (.bipush 16, 2) := by decide +kernel
theorem dX14_texture_73 : decode cX14_texture 73 = .ok (.irem, 1) := by decide +kernel
theorem dX14_texture_74 : decode cX14_texture 74 = .ok (.istore 7, 2) := by decide +kernel
theorem dX14_texture_76 : decode cX14_texture 76 = .ok (.iload 6, 2) := by decide +kernel
theorem dX14_texture_78 : decode cX14_texture 78 = .ok (.iload 5, 2) := by decide +kernel
theorem dX14_texture_80 : decode cX14_texture 80 = .ok (.if_icmp .ge 30, 3) := by decide +kernel
theorem dX14_texture_83 : decode cX14_texture 83 = .ok (.iload 7, 2) := by decide +kernel
theorem dX14_texture_85 : decode cX14_texture 85 = .ok (.iload 4, 2) := by decide +kernel
theorem dX14_texture_87 : decode cX14_texture 87 = .ok (.if_icmp .ge 23, 3) := by decide +kernel
theorem dX14_texture_90 : decode cX14_texture 90 = .ok (.aload_n 0, 1) := by decide +kernel
theorem dX14_texture_91 : decode cX14_texture 91 = .ok (.getfield 15, 3) := by decide +kernel
theorem dX14_texture_94 : decode cX14_texture 94 = .ok (.iload_n 3, 1) := by decide +kernel
theorem dX14_texture_95 : decode cX14_texture 95 = .ok (.iconst 2, 1) := by decide +kernel
theorem dX14_texture_96 : decode cX14_texture 96 = .ok (.iadd, 1) := by decide +kernel
theorem dX14_texture_97 : decode cX14_texture 97 = .ok (.iload 4, 2) := by decide +kernel
theorem dX14_texture_99 : decode cX14_texture 99 = .ok (.iload 6, 2) := by decide +kernel
theorem dX14_texture_101 : decode cX14_texture 101 = .ok (.imul, 1) := by decide +kernel
theorem dX14_texture_102 : decode cX14_texture 102 = .ok (.iadd, 1) := by decide +kernel
theorem dX14_texture_103 : decode cX14_texture 103 = .ok (.iload 7, 2) := by decide +kernel
theorem dX14_texture_105 : decode cX14_texture 105 = .ok (.iadd, 1) := by decide +kernel
theorem dX14_texture_106 : decode cX14_texture 106 = .ok (.baload, 1) := by decide +kernel
theorem dX14_texture_107 : decode cX14_texture 107 = .ok (.goto 4, 3) := by decide +kernel
theorem dX14_texture_110 : decode cX14_texture 110 = .ok (.iconst (-1), 1) := by decide +kernel
theorem dX14_texture_111 : decode cX14_texture 111 = .ok (.ireturn, 1) := by decide +kernel
theorem dX17_modulo_0 : decode cX17_modulo 0 = .ok (.lload_n 0, 1) := by decide +kernel
theorem dX17_modulo_1 : decode cX17_modulo 1 = .ok (.iload_n 2, 1) := by decide +kernel
theorem dX17_modulo_2 : decode cX17_modulo 2 = .ok (.i2l, 1) := by decide +kernel
theorem dX17_modulo_3 : decode cX17_modulo 3 = .ok (.lrem, 1) := by decide +kernel
theorem dX17_modulo_4 : decode cX17_modulo 4 = .ok (.iload_n 2, 1) := by decide +kernel
theorem dX17_modulo_5 : decode cX17_modulo 5 = .ok (.i2l, 1) := by decide +kernel
theorem dX17_modulo_6 : decode cX17_modulo 6 = .ok (.ladd, 1) := by decide +kernel
theorem dX17_modulo_7 : decode cX17_modulo 7 = .ok (.iload_n 2, 1) := by decide +kernel
theorem dX17_modulo_8 : decode cX17_modulo 8 = .ok (.i2l, 1) := by decide +kernel
theorem dX17_modulo_9 : decode cX17_modulo 9 = .ok (.lrem, 1) := by decide +kernel
theorem dX17_modulo_10 : decode cX17_modulo 10 = .ok (.l2i, 1) := by decide +kernel
theorem dX17_modulo_11 : decode cX17_modulo 11 = .ok (.ireturn, 1) := by decide +kernel
theorem dX17_texel_0 : decode cX17_texel 0 = .ok (.iload_n 1, 1) := by decide +kernel
theorem dX17_texel_1 : decode cX17_texel 1 = .ok (.sipush 255, 3) := by decide +kernel
theorem dX17_texel_4 : decode cX17_texel 4 = .ok (.if_icmp .ne 5, 3) := by decide +kernel
theorem dX17_texel_7 : decode cX17_texel 7 = .ok (.iconst 0, 1) := by decide +kernel
theorem dX17_texel_8 : decode cX17_texel 8 = .ok (.ireturn, 1) := by decide +kernel
theorem dX17_texel_9 : decode cX17_texel 9 = .ok (.aload_n 0, 1) := by decide +kernel
theorem dX17_texel_10 : decode cX17_texel 10 = .ok (.getfield 10, 3) := by decide +kernel
theorem dX17_texel_13 : decode cX17_texel 13 = .ok (.iload_n 1, 1) := by decide +kernel
theorem dX17_texel_14 : decode cX17_texel 14 = .ok (.iconst 0, 1) := by decide +kernel
theorem dX17_texel_15 : decode cX17_texel 15 = .ok (.invokevirtual 237, 3) := by decide +kernel
theorem dX17_texel_18 : decode cX17_texel 18 = .ok (.istore 6, 2) := by decide +kernel
theorem dX17_texel_20 : decode cX17_texel 20 = .ok (.aload_n 0, 1) := by decide +kernel
theorem dX17_texel_21 : decode cX17_texel 21 = .ok (.getfield 10, 3) := by decide +kernel
theorem dX17_texel_24 : decode cX17_texel 24 = .ok (.iload_n 1, 1) := by decide +kernel
theorem dX17_texel_25 : decode cX17_texel 25 = .ok (.iconst 1, 1) := by decide +kernel
theorem dX17_texel_26 : decode cX17_texel 26 = .ok (.invokevirtual 237, 3) := by decide +kernel
theorem dX17_texel_29 : decode cX17_texel 29 = .ok (.istore 7, 2) := by decide +kernel
theorem dX17_texel_31 : decode cX17_texel 31 = .ok (.aload_n 0, 1) := by decide +kernel
theorem dX17_texel_32 : decode cX17_texel 32 = .ok (.getfield 10, 3) := by decide +kernel
theorem dX17_texel_35 : decode cX17_texel 35 = .ok (.iload_n 1, 1) := by decide +kernel
theorem dX17_texel_36 : decode cX17_texel 36 = .ok (.iconst 2, 1) := by decide +kernel
theorem dX17_texel_37 : decode cX17_texel 37 = .ok (.bipush 16, 2) := by decide +kernel
theorem dX17_texel_39 : decode cX17_texel 39 = .ok (.lload 4, 2) := by decide +kernel
theorem dX17_texel_41 : decode cX17_texel 41 = .ok (.iload 7, 2) := by decide +kernel
theorem dX17_texel_43 : decode cX17_texel 43 = .ok (.invokestatic 240, 3) := by decide +kernel
theorem dX17_texel_46 : decode cX17_texel 46 = .ok (.imul, 1) := by decide +kernel
theorem dX17_texel_47 : decode cX17_texel 47 = .ok (.iadd, 1) := by decide +kernel
theorem dX17_texel_48 : decode cX17_texel 48 = .ok (.lload_n 2, 1) := by decide +kernel
theorem dX17_texel_49 : decode cX17_texel 49 = .ok (.iload 6, 2) := by decide +kernel
theorem dX17_texel_51 : decode cX17_texel 51 = .ok (.invokestatic 240, 3) := by decide +kernel
theorem dX17_texel_54 : decode cX17_texel 54 = .ok (.iadd, 1) := by decide +kernel
theorem dX17_texel_55 : decode cX17_texel 55 = .ok (.invokevirtual 237, 3) := by decide +kernel
theorem dX17_texel_58 : decode cX17_texel 58 = .ok (.ireturn, 1) := by decide +kernel
theorem dX17_shade_0 : decode cX17_shade 0 = .ok (.aload_n 0, 1) := by decide +kernel
theorem dX17_shade_1 : decode cX17_shade 1 = .ok (.getfield 26, 3) := by decide +kernel
theorem dX17_shade_4 : decode cX17_shade 4 = .ok (.iload_n 1, 1) := by decide +kernel
theorem dX17_shade_5 : decode cX17_shade 5 = .ok (.iconst 2, 1) := by decide +kernel
theorem dX17_shade_6 : decode cX17_shade 6 = .ok (.invokevirtual 244, 3) := by decide +kernel
theorem dX17_shade_9 : decode cX17_shade 9 = .ok (.i2l, 1) := by decide +kernel
theorem dX17_shade_10 : decode cX17_shade 10 = .ok (.lload_n 2, 1) := by decide +kernel
theorem dX17_shade_11 : decode cX17_shade 11 = .ok (.lsub, 1) := by decide +kernel
theorem dX17_shade_12 : decode cX17_shade 12 = .ok (.lstore 4, 2) := by decide +kernel
theorem dX17_shade_14 : decode cX17_shade 14 = .ok (.lload 4, 2) := by decide +kernel
theorem dX17_shade_16 : decode cX17_shade 16 = .ok (.lconst 0, 1) := by decide +kernel
theorem dX17_shade_17 : decode cX17_shade 17 = .ok (.lcmp, 1) := by decide +kernel
theorem dX17_shade_18 : decode cX17_shade 18 = .ok (.ifCond .ge 7, 3) := by decide +kernel
theorem dX17_shade_21 : decode cX17_shade 21 = .ok (.iconst 0, 1) := by decide +kernel
theorem dX17_shade_22 : decode cX17_shade 22 = .ok (.goto 6, 3) := by decide +kernel
theorem dX17_shade_25 : decode cX17_shade 25 = .ok (.lload 4, 2) := by decide +kernel
theorem dX17_shade_27 : decode cX17_shade 27 = .ok (.l2i, 1) := by decide +kernel
theorem dX17_shade_28 : decode cX17_shade 28 = .ok (.ireturn, 1) := by decide +kernel
theorem dX17_flat_0 : decode cX17_flat 0 = .ok (.aload_n 0, 1) := by decide +kernel
theorem dX17_flat_1 : decode cX17_flat 1 = .ok (.getfield 10, 3) := by decide +kernel
theorem dX17_flat_4 : decode cX17_flat 4 = .ok (.iload 4, 2) := by decide +kernel
theorem dX17_flat_6 : decode cX17_flat 6 = .ok (.iload_n 3, 1) := by decide +kernel
theorem dX17_flat_7 : decode cX17_flat 7 = .ok (.iconst 1, 1) := by decide +kernel
theorem dX17_flat_8 : decode cX17_flat 8 = .ok (.if_icmp .ne 7, 3) := by decide +kernel
theorem dX17_flat_11 : decode cX17_flat 11 = .ok (.iconst 3, 1) := by decide +kernel
theorem dX17_flat_12 : decode cX17_flat 12 = .ok (.goto 4, 3) := by decide +kernel
theorem dX17_flat_15 : decode cX17_flat 15 = .ok (.iconst 2, 1) := by decide +kernel
theorem dX17_flat_16 : decode cX17_flat 16 = .ok (.invokevirtual 114, 3) := by decide +kernel
theorem dX17_flat_19 : decode cX17_flat 19 = .ok (.istore 5, 2) := by decide +kernel
theorem dX17_flat_21 : decode cX17_flat 21 = .ok (.iload_n 3, 1) := by decide +kernel
theorem dX17_flat_22 : decode cX17_flat 22 = .ok (.iconst 1, 1) := by decide +kernel
theorem dX17_flat_23 : decode cX17_flat 23 = .ok (.if_icmp .ne 15, 3) := by decide +kernel
theorem dX17_flat_26 : decode cX17_flat 26 = .ok (.iload 5, 2) := by decide +kernel
theorem dX17_flat_28 : decode cX17_flat 28 = .ok (.sipush 255, 3) := by decide +kernel
theorem dX17_flat_31 : decode cX17_flat 31 = .ok (.if_icmp .ne 7, 3) := by decide +kernel
theorem dX17_flat_34 : decode cX17_flat 34 = .ok (.iconst 1, 1) := by decide +kernel
theorem dX17_flat_35 : decode cX17_flat 35 = .ok (.goto 4, 3) := by decide +kernel
theorem dX17_flat_38 : decode cX17_flat 38 = .ok (.iconst 0, 1) := by decide +kernel
theorem dX17_flat_39 : decode cX17_flat 39 = .ok (.istore 6, 2) := by decide +kernel
theorem dX17_flat_41 : decode cX17_flat 41 = .ok (.iload_n 3, 1) := by decide +kernel
theorem dX17_flat_42 : decode cX17_flat 42 = .ok (.iconst 1, 1) := by decide +kernel
theorem dX17_flat_43 : decode cX17_flat 43 = .ok (.if_icmp .ne 16, 3) := by decide +kernel
theorem dX17_flat_46 : decode cX17_flat 46 = .ok (.aload_n 0, 1) := by decide +kernel
theorem dX17_flat_47 : decode cX17_flat 47 = .ok (.getfield 26, 3) := by decide +kernel
theorem dX17_flat_50 : decode cX17_flat 50 = .ok (.getfield 247, 3) := by decide +kernel
theorem dX17_flat_53 : decode cX17_flat 53 = .ok (.iload 4, 2) := by decide +kernel
theorem dX17_flat_55 : decode cX17_flat 55 = .ok (.iaload, 1) := by decide +kernel
theorem dX17_flat_56 : decode cX17_flat 56 = .ok (.goto 13, 3) := by decide +kernel
theorem dX17_flat_59 : decode cX17_flat 59 = .ok (.aload_n 0, 1) := by decide +kernel
theorem dX17_flat_60 : decode cX17_flat 60 = .ok (.getfield 26, 3) := by decide +kernel
theorem dX17_flat_63 : decode cX17_flat 63 = .ok (.getfield 221, 3) := by decide +kernel
theorem dX17_flat_66 : decode cX17_flat 66 = .ok (.iload 4, 2) := by decide +kernel
theorem dX17_flat_68 : decode cX17_flat 68 = .ok (.iaload, 1) := by decide +kernel
theorem dX17_flat_69 : decode cX17_flat 69 = .ok (.aload_n 0, 1) := by decide +kernel
theorem dX17_flat_70 : decode cX17_flat 70 = .ok (.invokevirtual 228, 3) := by decide +kernel
theorem dX17_flat_73 : decode cX17_flat 73 = .ok (.isub, 1) := by decide +kernel
theorem dX17_flat_74 : decode cX17_flat 74 = .ok (.i2l, 1) := by decide +kernel
theorem dX17_flat_75 : decode cX17_flat 75 = .ok (.lstore 7, 2) := by decide +kernel
theorem dX17_flat_77 : decode cX17_flat 77 = .ok (.iload_n 1, 1) := by decide +kernel
theorem dX17_flat_78 : decode cX17_flat 78 = .ok (.istore 9, 2) := by decide +kernel
theorem dX17_flat_80 : decode cX17_flat 80 = .ok (.iload 9, 2) := by decide +kernel
theorem dX17_flat_82 : decode cX17_flat 82 = .ok (.iload_n 2, 1) := by decide +kernel
theorem dX17_flat_83 : decode cX17_flat 83 = .ok (.if_icmp .ge 217, 3) := by decide +kernel
theorem dX17_flat_86 : decode cX17_flat 86 = .ok (.bipush 47, 2) := by decide +kernel
theorem dX17_flat_88 : decode cX17_flat 88 = .ok (.iconst 2, 1) := by decide +kernel
theorem dX17_flat_89 : decode cX17_flat 89 = .ok (.iload 9, 2) := by decide +kernel
theorem dX17_flat_91 : decode cX17_flat 91 = .ok (.imul, 1) := by decide +kernel
theorem dX17_flat_92 : decode cX17_flat 92 = .ok (.isub, 1) := by decide +kernel
theorem dX17_flat_93 : decode cX17_flat 93 = .ok (.sipush 256, 3) := by decide +kernel
theorem dX17_flat_96 : decode cX17_flat 96 = .ok (.imul, 1) := by decide +kernel
theorem dX17_flat_97 : decode cX17_flat 97 = .ok (.i2l, 1) := by decide +kernel
theorem dX17_flat_98 : decode cX17_flat 98 = .ok (.lstore 10, 2) := by decide +kernel
theorem dX17_flat_100 : decode cX17_flat 100 = .ok (.lload 7, 2) := by decide +kernel
theorem dX17_flat_102 : decode cX17_flat 102 = .ok (.lconst 0, 1) := by decide +kernel
theorem dX17_flat_103 : decode cX17_flat 103 = .ok (.lcmp, 1) := by decide +kernel
theorem dX17_flat_104 : decode cX17_flat 104 = .ok (.ifCond .le 10, 3) := by decide +kernel
theorem dX17_flat_107 : decode cX17_flat 107 = .ok (.lload 10, 2) := by decide +kernel
theorem dX17_flat_109 : decode cX17_flat 109 = .ok (.lconst 0, 1) := by decide +kernel
theorem dX17_flat_110 : decode cX17_flat 110 = .ok (.lcmp, 1) := by decide +kernel
theorem dX17_flat_111 : decode cX17_flat 111 = .ok (.ifCond .gt 17, 3) := by decide +kernel
theorem dX17_flat_114 : decode cX17_flat 114 = .ok (.lload 7, 2) := by decide +kernel
theorem dX17_flat_116 : decode cX17_flat 116 = .ok (.lconst 0, 1) := by decide +kernel
theorem dX17_flat_117 : decode cX17_flat 117 = .ok (.lcmp, 1) := by decide +kernel
theorem dX17_flat_118 : decode cX17_flat 118 = .ok (.ifCond .ge 14, 3) := by decide +kernel
theorem dX17_flat_121 : decode cX17_flat 121 = .ok (.lload 10, 2) := by decide +kernel
theorem dX17_flat_123 : decode cX17_flat 123 = .ok (.lconst 0, 1) := by decide +kernel
theorem dX17_flat_124 : decode cX17_flat 124 = .ok (.lcmp, 1) := by decide +kernel
theorem dX17_flat_125 : decode cX17_flat 125 = .ok (.ifCond .ge 7, 3) := by decide +kernel
theorem dX17_flat_128 : decode cX17_flat 128 = .ok (.iconst 1, 1) := by decide +kernel
theorem dX17_flat_129 : decode cX17_flat 129 = .ok (.goto 4, 3) := by decide +kernel
theorem dX17_flat_132 : decode cX17_flat 132 = .ok (.iconst 0, 1) := by decide +kernel
theorem dX17_flat_133 : decode cX17_flat 133 = .ok (.istore 12, 2) := by decide +kernel
theorem dX17_flat_135 : decode cX17_flat 135 = .ok (.iload 12, 2) := by decide +kernel
theorem dX17_flat_137 : decode cX17_flat 137 = .ok (.ifCond .eq 24, 3) := by decide +kernel
theorem dX17_flat_140 : decode cX17_flat 140 = .ok (.aload_n 0, 1) := by decide +kernel
theorem dX17_flat_141 : decode cX17_flat 141 = .ok (.getfield 182, 3) := by decide +kernel
theorem dX17_flat_144 : decode cX17_flat 144 = .ok (.i2l, 1) := by decide +kernel
theorem dX17_flat_145 : decode cX17_flat 145 = .ok (.aload_n 0, 1) := by decide +kernel
theorem dX17_flat_146 : decode cX17_flat 146 = .ok (.getfield 175, 3) := by decide +kernel
theorem dX17_flat_149 : decode cX17_flat 149 = .ok (.lload 7, 2) := by decide +kernel
theorem dX17_flat_151 : decode cX17_flat 151 = .ok (.lmul, 1) := by decide +kernel
theorem dX17_flat_152 : decode cX17_flat 152 = .ok (.lload 10, 2) := by decide +kernel
theorem dX17_flat_154 : decode cX17_flat 154 = .ok (.invokestatic 233, 3) := by decide +kernel
theorem dX17_flat_157 : decode cX17_flat 157 = .ok (.ladd, 1) := by decide +kernel
theorem dX17_flat_158 : decode cX17_flat 158 = .ok (.goto 8, 3) := by decide +kernel
theorem dX17_flat_161 : decode cX17_flat 161 = .ok (.aload_n 0, 1) := by decide +kernel
theorem dX17_flat_162 : decode cX17_flat 162 = .ok (.getfield 182, 3) := by decide +kernel
theorem dX17_flat_165 : decode cX17_flat 165 = .ok (.i2l, 1) := by decide +kernel
theorem dX17_flat_166 : decode cX17_flat 166 = .ok (.lstore 13, 2) := by decide +kernel
theorem dX17_flat_168 : decode cX17_flat 168 = .ok (.iload 12, 2) := by decide +kernel
theorem dX17_flat_170 : decode cX17_flat 170 = .ok (.ifCond .eq 24, 3) := by decide +kernel
theorem dX17_flat_173 : decode cX17_flat 173 = .ok (.aload_n 0, 1) := by decide +kernel
theorem dX17_flat_174 : decode cX17_flat 174 = .ok (.getfield 185, 3) := by decide +kernel
theorem dX17_flat_177 : decode cX17_flat 177 = .ok (.i2l, 1) := by decide +kernel
theorem dX17_flat_178 : decode cX17_flat 178 = .ok (.aload_n 0, 1) := by decide +kernel
theorem dX17_flat_179 : decode cX17_flat 179 = .ok (.getfield 179, 3) := by decide +kernel
theorem dX17_flat_182 : decode cX17_flat 182 = .ok (.lload 7, 2) := by decide +kernel
theorem dX17_flat_184 : decode cX17_flat 184 = .ok (.lmul, 1) := by decide +kernel
theorem dX17_flat_185 : decode cX17_flat 185 = .ok (.lload 10, 2) := by decide +kernel
theorem dX17_flat_187 : decode cX17_flat 187 = .ok (.invokestatic 233, 3) := by decide +kernel
theorem dX17_flat_190 : decode cX17_flat 190 = .ok (.ladd, 1) := by decide +kernel
theorem dX17_flat_191 : decode cX17_flat 191 = .ok (.goto 8, 3) := by decide +kernel
theorem dX17_flat_194 : decode cX17_flat 194 = .ok (.aload_n 0, 1) := by decide +kernel
theorem dX17_flat_195 : decode cX17_flat 195 = .ok (.getfield 185, 3) := by decide +kernel
theorem dX17_flat_198 : decode cX17_flat 198 = .ok (.i2l, 1) := by decide +kernel
theorem dX17_flat_199 : decode cX17_flat 199 = .ok (.lstore 15, 2) := by decide +kernel
theorem dX17_flat_201 : decode cX17_flat 201 = .ok (.aload_n 0, 1) := by decide +kernel
theorem dX17_flat_202 : decode cX17_flat 202 = .ok (.getfield 51, 3) := by decide +kernel
theorem dX17_flat_205 : decode cX17_flat 205 = .ok (.iload 9, 2) := by decide +kernel
theorem dX17_flat_207 : decode cX17_flat 207 = .ok (.sipush 256, 3) := by decide +kernel
theorem dX17_flat_210 : decode cX17_flat 210 = .ok (.iload 6, 2) := by decide +kernel
theorem dX17_flat_212 : decode cX17_flat 212 = .ok (.ifCond .eq 8, 3) := by decide +kernel
theorem dX17_flat_215 : decode cX17_flat 215 = .ok (.bipush 6, 2) := by decide +kernel
theorem dX17_flat_217 : decode cX17_flat 217 = .ok (.goto 4, 3) := by decide +kernel
theorem dX17_flat_220 : decode cX17_flat 220 = .ok (.iload_n 3, 1) := by decide +kernel
theorem dX17_flat_221 : decode cX17_flat 221 = .ok (.imul, 1) := by decide +kernel
theorem dX17_flat_222 : decode cX17_flat 222 = .ok (.iload 4, 2) := by decide +kernel
theorem dX17_flat_224 : decode cX17_flat 224 = .ok (.iadd, 1) := by decide +kernel
theorem dX17_flat_225 : decode cX17_flat 225 = .ok (.iastore, 1) := by decide +kernel
theorem dX17_flat_226 : decode cX17_flat 226 = .ok (.aload_n 0, 1) := by decide +kernel
theorem dX17_flat_227 : decode cX17_flat 227 = .ok (.getfield 54, 3) := by decide +kernel
theorem dX17_flat_230 : decode cX17_flat 230 = .ok (.iload 9, 2) := by decide +kernel
theorem dX17_flat_232 : decode cX17_flat 232 = .ok (.iload 6, 2) := by decide +kernel
theorem dX17_flat_234 : decode cX17_flat 234 = .ok (.ifCond .eq 19, 3) := by decide +kernel
theorem dX17_flat_237 : decode cX17_flat 237 = .ok (.bipush 16, 2) := by decide +kernel
theorem dX17_flat_239 : decode cX17_flat 239 = .ok (.bipush 15, 2) := by decide +kernel
theorem dX17_flat_241 : decode cX17_flat 241 = .ok (.iload 9, 2) := by decide +kernel
theorem dX17_flat_243 : decode cX17_flat 243 = .ok (.iconst 4, 1) := by decide +kernel
theorem dX17_flat_244 : decode cX17_flat 244 = .ok (.idiv, 1) := by decide +kernel
theorem dX17_flat_245 : decode cX17_flat 245 = .ok (.isub, 1) := by decide +kernel
theorem dX17_flat_246 : decode cX17_flat 246 = .ok (.imul, 1) := by decide +kernel
theorem dX17_flat_247 : decode cX17_flat 247 = .ok (.bipush 15, 2) := by decide +kernel
theorem dX17_flat_249 : decode cX17_flat 249 = .ok (.iadd, 1) := by decide +kernel
theorem dX17_flat_250 : decode cX17_flat 250 = .ok (.goto 43, 3) := by decide +kernel
theorem dX17_flat_253 : decode cX17_flat 253 = .ok (.bipush 16, 2) := by decide +kernel
theorem dX17_flat_255 : decode cX17_flat 255 = .ok (.aload_n 0, 1) := by decide +kernel
theorem dX17_flat_256 : decode cX17_flat 256 = .ok (.iload 5, 2) := by decide +kernel
theorem dX17_flat_258 : decode cX17_flat 258 = .ok (.lload 13, 2) := by decide +kernel
theorem dX17_flat_260 : decode cX17_flat 260 = .ok (.lload 15, 2) := by decide +kernel
theorem dX17_flat_262 : decode cX17_flat 262 = .ok (.invokevirtual 250, 3) := by decide +kernel
theorem dX17_flat_265 : decode cX17_flat 265 = .ok (.imul, 1) := by decide +kernel
theorem dX17_flat_266 : decode cX17_flat 266 = .ok (.aload_n 0, 1) := by decide +kernel
theorem dX17_flat_267 : decode cX17_flat 267 = .ok (.iload 4, 2) := by decide +kernel
theorem dX17_flat_269 : decode cX17_flat 269 = .ok (.iload 12, 2) := by decide +kernel
theorem dX17_flat_271 : decode cX17_flat 271 = .ok (.ifCond .eq 17, 3) := by decide +kernel
theorem dX17_flat_274 : decode cX17_flat 274 = .ok (.ldc2_w 254, 3) := by decide +kernel
theorem dX17_flat_277 : decode cX17_flat 277 = .ok (.lload 7, 2) := by decide +kernel
theorem dX17_flat_279 : decode cX17_flat 279 = .ok (.lmul, 1) := by decide +kernel
theorem dX17_flat_280 : decode cX17_flat 280 = .ok (.lload 10, 2) := by decide +kernel
theorem dX17_flat_282 : decode cX17_flat 282 = .ok (.invokestatic 233, 3) := by decide +kernel
theorem dX17_flat_285 : decode cX17_flat 285 = .ok (.goto 4, 3) := by decide +kernel
theorem dX17_flat_288 : decode cX17_flat 288 = .ok (.lconst 0, 1) := by decide +kernel
theorem dX17_flat_289 : decode cX17_flat 289 = .ok (.invokevirtual 256, 3) := by decide +kernel
theorem dX17_flat_292 : decode cX17_flat 292 = .ok (.iadd, 1) := by decide +kernel
theorem dX17_flat_293 : decode cX17_flat 293 = .ok (.iastore, 1) := by decide +kernel
theorem dX17_flat_294 : decode cX17_flat 294 = .ok (.iinc 9 1, 3) := by decide +kernel
theorem dX17_flat_297 : decode cX17_flat 297 = .ok (.goto (-217), 3) := by decide +kernel
theorem dX17_flat_300 : decode cX17_flat 300 = .ok (.return_, 1) := by decide +kernel
theorem dX17_part_0 : decode cX17_part 0 = .ok (.aload_n 0, 1) := by decide +kernel
theorem dX17_part_1 : decode cX17_part 1 = .ok (.iload 4, 2) := by decide +kernel
theorem dX17_part_3 : decode cX17_part 3 = .ok (.iconst 1, 1) := by decide +kernel
theorem dX17_part_4 : decode cX17_part 4 = .ok (.invokevirtual 260, 3) := by decide +kernel
theorem dX17_part_7 : decode cX17_part 7 = .ok (.istore 5, 2) := by decide +kernel
theorem dX17_part_9 : decode cX17_part 9 = .ok (.aload_n 0, 1) := by decide +kernel
theorem dX17_part_10 : decode cX17_part 10 = .ok (.iload 4, 2) := by decide +kernel
theorem dX17_part_12 : decode cX17_part 12 = .ok (.iconst 0, 1) := by decide +kernel
theorem dX17_part_13 : decode cX17_part 13 = .ok (.invokevirtual 260, 3) := by decide +kernel
theorem dX17_part_16 : decode cX17_part 16 = .ok (.istore 6, 2) := by decide +kernel
theorem dX17_part_18 : decode cX17_part 18 = .ok (.aload_n 0, 1) := by decide +kernel
theorem dX17_part_19 : decode cX17_part 19 = .ok (.iload 4, 2) := by decide +kernel
theorem dX17_part_21 : decode cX17_part 21 = .ok (.aload_n 0, 1) := by decide +kernel
theorem dX17_part_22 : decode cX17_part 22 = .ok (.getfield 204, 3) := by decide +kernel
theorem dX17_part_25 : decode cX17_part 25 = .ok (.ifCond .eq 7, 3) := by decide +kernel
theorem dX17_part_28 : decode cX17_part 28 = .ok (.iconst 4, 1) := by decide +kernel
theorem dX17_part_29 : decode cX17_part 29 = .ok (.goto 5, 3) := by decide +kernel
theorem dX17_part_32 : decode cX17_part 32 = .ok (.bipush 7, 2) := by decide +kernel
theorem dX17_part_34 : decode cX17_part 34 = .ok (.iload_n 3, 1) := by decide +kernel
theorem dX17_part_35 : decode cX17_part 35 = .ok (.iconst 4, 1) := by decide +kernel
theorem dX17_part_36 : decode cX17_part 36 = .ok (.if_icmp .ne 7, 3) := by decide +kernel
theorem dX17_part_39 : decode cX17_part 39 = .ok (.iconst 0, 1) := by decide +kernel
theorem dX17_part_40 : decode cX17_part 40 = .ok (.goto 13, 3) := by decide +kernel
theorem dX17_part_43 : decode cX17_part 43 = .ok (.iload_n 3, 1) := by decide +kernel
theorem dX17_part_44 : decode cX17_part 44 = .ok (.iconst 3, 1) := by decide +kernel
theorem dX17_part_45 : decode cX17_part 45 = .ok (.if_icmp .ne 7, 3) := by decide +kernel
theorem dX17_part_48 : decode cX17_part 48 = .ok (.iconst 1, 1) := by decide +kernel
theorem dX17_part_49 : decode cX17_part 49 = .ok (.goto 4, 3) := by decide +kernel
theorem dX17_part_52 : decode cX17_part 52 = .ok (.iconst 2, 1) := by decide +kernel
theorem dX17_part_53 : decode cX17_part 53 = .ok (.iadd, 1) := by decide +kernel
theorem dX17_part_54 : decode cX17_part 54 = .ok (.invokevirtual 218, 3) := by decide +kernel
theorem dX17_part_57 : decode cX17_part 57 = .ok (.istore 7, 2) := by decide +kernel
theorem dX17_part_59 : decode cX17_part 59 = .ok (.iload 7, 2) := by decide +kernel
theorem dX17_part_61 : decode cX17_part 61 = .ok (.sipush 255, 3) := by decide +kernel
theorem dX17_part_64 : decode cX17_part 64 = .ok (.if_icmp .ne 7, 3) := by decide +kernel
theorem dX17_part_67 : decode cX17_part 67 = .ok (.iconst 0, 1) := by decide +kernel
theorem dX17_part_68 : decode cX17_part 68 = .ok (.goto 13, 3) := by decide +kernel
theorem dX17_part_71 : decode cX17_part 71 = .ok (.aload_n 0, 1) := by decide +kernel
theorem dX17_part_72 : decode cX17_part 72 = .ok (.getfield 10, 3) := by decide +kernel
theorem dX17_part_75 : decode cX17_part 75 = .ok (.iload 7, 2) := by decide +kernel
theorem dX17_part_77 : decode cX17_part 77 = .ok (.iconst 1, 1) := by decide +kernel
theorem dX17_part_78 : decode cX17_part 78 = .ok (.invokevirtual 237, 3) := by decide +kernel
theorem dX17_part_81 : decode cX17_part 81 = .ok (.istore 8, 2) := by decide +kernel
theorem dX17_part_83 : decode cX17_part 83 = .ok (.aload_n 0, 1) := by decide +kernel
theorem dX17_part_84 : decode cX17_part 84 = .ok (.iload 4, 2) := by decide +kernel
theorem dX17_part_86 : decode cX17_part 86 = .ok (.bipush 12, 2) := by decide +kernel
theorem dX17_part_88 : decode cX17_part 88 = .ok (.invokevirtual 218, 3) := by decide +kernel
theorem dX17_part_91 : decode cX17_part 91 = .ok (.iload_n 3, 1) := by decide +kernel
theorem dX17_part_92 : decode cX17_part 92 = .ok (.iconst 4, 1) := by decide +kernel
theorem dX17_part_93 : decode cX17_part 93 = .ok (.if_icmp .ne 7, 3) := by decide +kernel
theorem dX17_part_96 : decode cX17_part 96 = .ok (.iconst 1, 1) := by decide +kernel
theorem dX17_part_97 : decode cX17_part 97 = .ok (.goto 4, 3) := by decide +kernel
theorem dX17_part_100 : decode cX17_part 100 = .ok (.iconst 2, 1) := by decide +kernel
theorem dX17_part_101 : decode cX17_part 101 = .ok (.iand, 1) := by decide +kernel
theorem dX17_part_102 : decode cX17_part 102 = .ok (.ifCond .eq 7, 3) := by decide +kernel
theorem dX17_part_105 : decode cX17_part 105 = .ok (.iconst 1, 1) := by decide +kernel
theorem dX17_part_106 : decode cX17_part 106 = .ok (.goto 4, 3) := by decide +kernel
theorem dX17_part_109 : decode cX17_part 109 = .ok (.iconst 0, 1) := by decide +kernel
theorem dX17_part_110 : decode cX17_part 110 = .ok (.istore 9, 2) := by decide +kernel
theorem dX17_part_112 : decode cX17_part 112 = .ok (.aload_n 0, 1) := by decide +kernel
theorem dX17_part_113 : decode cX17_part 113 = .ok (.getfield 26, 3) := by decide +kernel
theorem dX17_part_116 : decode cX17_part 116 = .ok (.getfield 247, 3) := by decide +kernel
theorem dX17_part_119 : decode cX17_part 119 = .ok (.iload 5, 2) := by decide +kernel
theorem dX17_part_121 : decode cX17_part 121 = .ok (.iaload, 1) := by decide +kernel
theorem dX17_part_122 : decode cX17_part 122 = .ok (.istore 10, 2) := by decide +kernel
theorem dX17_part_124 : decode cX17_part 124 = .ok (.iload_n 3, 1) := by decide +kernel
theorem dX17_part_125 : decode cX17_part 125 = .ok (.iconst 4, 1) := by decide +kernel
theorem dX17_part_126 : decode cX17_part 126 = .ok (.if_icmp .ne 29, 3) := by decide +kernel
theorem dX17_part_129 : decode cX17_part 129 = .ok (.iload 9, 2) := by decide +kernel
theorem dX17_part_131 : decode cX17_part 131 = .ok (.ifCond .eq 8, 3) := by decide +kernel
theorem dX17_part_134 : decode cX17_part 134 = .ok (.iload 10, 2) := by decide +kernel
theorem dX17_part_136 : decode cX17_part 136 = .ok (.goto 70, 3) := by decide +kernel
theorem dX17_part_139 : decode cX17_part 139 = .ok (.aload_n 0, 1) := by decide +kernel
theorem dX17_part_140 : decode cX17_part 140 = .ok (.getfield 26, 3) := by decide +kernel
theorem dX17_part_143 : decode cX17_part 143 = .ok (.getfield 247, 3) := by decide +kernel
theorem dX17_part_146 : decode cX17_part 146 = .ok (.iload 6, 2) := by decide +kernel
theorem dX17_part_148 : decode cX17_part 148 = .ok (.iaload, 1) := by decide +kernel
theorem dX17_part_149 : decode cX17_part 149 = .ok (.iload 8, 2) := by decide +kernel
theorem dX17_part_151 : decode cX17_part 151 = .ok (.iadd, 1) := by decide +kernel
theorem dX17_part_152 : decode cX17_part 152 = .ok (.goto 54, 3) := by decide +kernel
theorem dX17_part_155 : decode cX17_part 155 = .ok (.iload_n 3, 1) := by decide +kernel
theorem dX17_part_156 : decode cX17_part 156 = .ok (.iconst 3, 1) := by decide +kernel
theorem dX17_part_157 : decode cX17_part 157 = .ok (.if_icmp .ne 29, 3) := by decide +kernel
theorem dX17_part_160 : decode cX17_part 160 = .ok (.iload 9, 2) := by decide +kernel
theorem dX17_part_162 : decode cX17_part 162 = .ok (.ifCond .eq 19, 3) := by decide +kernel
theorem dX17_part_165 : decode cX17_part 165 = .ok (.aload_n 0, 1) := by decide +kernel
theorem dX17_part_166 : decode cX17_part 166 = .ok (.getfield 26, 3) := by decide +kernel
theorem dX17_part_169 : decode cX17_part 169 = .ok (.getfield 221, 3) := by decide +kernel
theorem dX17_part_172 : decode cX17_part 172 = .ok (.iload 5, 2) := by decide +kernel
theorem dX17_part_174 : decode cX17_part 174 = .ok (.iaload, 1) := by decide +kernel
theorem dX17_part_175 : decode cX17_part 175 = .ok (.iload 8, 2) := by decide +kernel
theorem dX17_part_177 : decode cX17_part 177 = .ok (.iadd, 1) := by decide +kernel
theorem dX17_part_178 : decode cX17_part 178 = .ok (.goto 28, 3) := by decide +kernel
theorem dX17_part_181 : decode cX17_part 181 = .ok (.iload 10, 2) := by decide +kernel
theorem dX17_part_183 : decode cX17_part 183 = .ok (.goto 23, 3) := by decide +kernel
theorem dX17_part_186 : decode cX17_part 186 = .ok (.iload 9, 2) := by decide +kernel
theorem dX17_part_188 : decode cX17_part 188 = .ok (.ifCond .eq 8, 3) := by decide +kernel
theorem dX17_part_191 : decode cX17_part 191 = .ok (.iload 10, 2) := by decide +kernel
theorem dX17_part_193 : decode cX17_part 193 = .ok (.goto 13, 3) := by decide +kernel
theorem dX17_part_196 : decode cX17_part 196 = .ok (.aload_n 0, 1) := by decide +kernel
theorem dX17_part_197 : decode cX17_part 197 = .ok (.getfield 26, 3) := by decide +kernel
theorem dX17_part_200 : decode cX17_part 200 = .ok (.getfield 221, 3) := by decide +kernel
theorem dX17_part_203 : decode cX17_part 203 = .ok (.iload 6, 2) := by decide +kernel
theorem dX17_part_205 : decode cX17_part 205 = .ok (.iaload, 1) := by decide +kernel
theorem dX17_part_206 : decode cX17_part 206 = .ok (.istore 11, 2) := by decide +kernel
theorem dX17_part_208 : decode cX17_part 208 = .ok (.aload_n 0, 1) := by decide +kernel
theorem dX17_part_209 : decode cX17_part 209 = .ok (.getfield 33, 3) := by decide +kernel
theorem dX17_part_212 : decode cX17_part 212 = .ok (.getfield 145, 3) := by decide +kernel
theorem dX17_part_215 : decode cX17_part 215 = .ok (.iload 4, 2) := by decide +kernel
theorem dX17_part_217 : decode cX17_part 217 = .ok (.iaload, 1) := by decide +kernel
theorem dX17_part_218 : decode cX17_part 218 = .ok (.aload_n 0, 1) := by decide +kernel
theorem dX17_part_219 : decode cX17_part 219 = .ok (.getfield 33, 3) := by decide +kernel
theorem dX17_part_222 : decode cX17_part 222 = .ok (.getfield 135, 3) := by decide +kernel
theorem dX17_part_225 : decode cX17_part 225 = .ok (.iload 4, 2) := by decide +kernel
theorem dX17_part_227 : decode cX17_part 227 = .ok (.iaload, 1) := by decide +kernel
theorem dX17_part_228 : decode cX17_part 228 = .ok (.isub, 1) := by decide +kernel
theorem dX17_part_229 : decode cX17_part 229 = .ok (.i2l, 1) := by decide +kernel
theorem dX17_part_230 : decode cX17_part 230 = .ok (.lstore 12, 2) := by decide +kernel
theorem dX17_part_232 : decode cX17_part 232 = .ok (.aload_n 0, 1) := by decide +kernel
theorem dX17_part_233 : decode cX17_part 233 = .ok (.getfield 33, 3) := by decide +kernel
theorem dX17_part_236 : decode cX17_part 236 = .ok (.getfield 148, 3) := by decide +kernel
theorem dX17_part_239 : decode cX17_part 239 = .ok (.iload 4, 2) := by decide +kernel
theorem dX17_part_241 : decode cX17_part 241 = .ok (.iaload, 1) := by decide +kernel
theorem dX17_part_242 : decode cX17_part 242 = .ok (.aload_n 0, 1) := by decide +kernel
theorem dX17_part_243 : decode cX17_part 243 = .ok (.getfield 33, 3) := by decide +kernel
theorem dX17_part_246 : decode cX17_part 246 = .ok (.getfield 142, 3) := by decide +kernel
theorem dX17_part_249 : decode cX17_part 249 = .ok (.iload 4, 2) := by decide +kernel
theorem dX17_part_251 : decode cX17_part 251 = .ok (.iaload, 1) := by decide +kernel
theorem dX17_part_252 : decode cX17_part 252 = .ok (.isub, 1) := by decide +kernel
theorem dX17_part_253 : decode cX17_part 253 = .ok (.i2l, 1) := by decide +kernel
theorem dX17_part_254 : decode cX17_part 254 = .ok (.lstore 14, 2) := by decide +kernel
theorem dX17_part_256 : decode cX17_part 256 = .ok (.lload 12, 2) := by decide +kernel
theorem dX17_part_258 : decode cX17_part 258 = .ok (.lconst 0, 1) := by decide +kernel
theorem dX17_part_259 : decode cX17_part 259 = .ok (.lcmp, 1) := by decide +kernel
theorem dX17_part_260 : decode cX17_part 260 = .ok (.ifCond .ge 9, 3) := by decide +kernel
theorem dX17_part_263 : decode cX17_part 263 = .ok (.lload 12, 2) := by decide +kernel
theorem dX17_part_265 : decode cX17_part 265 = .ok (.lneg, 1) := by decide +kernel
theorem dX17_part_266 : decode cX17_part 266 = .ok (.goto 5, 3) := by decide +kernel
theorem dX17_part_269 : decode cX17_part 269 = .ok (.lload 12, 2) := by decide +kernel
theorem dX17_part_271 : decode cX17_part 271 = .ok (.lstore 12, 2) := by decide +kernel
theorem dX17_part_273 : decode cX17_part 273 = .ok (.lload 14, 2) := by decide +kernel
theorem dX17_part_275 : decode cX17_part 275 = .ok (.lconst 0, 1) := by decide +kernel
theorem dX17_part_276 : decode cX17_part 276 = .ok (.lcmp, 1) := by decide +kernel
theorem dX17_part_277 : decode cX17_part 277 = .ok (.ifCond .ge 9, 3) := by decide +kernel
theorem dX17_part_280 : decode cX17_part 280 = .ok (.lload 14, 2) := by decide +kernel
theorem dX17_part_282 : decode cX17_part 282 = .ok (.lneg, 1) := by decide +kernel
theorem dX17_part_283 : decode cX17_part 283 = .ok (.goto 5, 3) := by decide +kernel
theorem dX17_part_286 : decode cX17_part 286 = .ok (.lload 14, 2) := by decide +kernel
theorem dX17_part_288 : decode cX17_part 288 = .ok (.lstore 14, 2) := by decide +kernel
theorem dX17_part_290 : decode cX17_part 290 = .ok (.lload 12, 2) := by decide +kernel
theorem dX17_part_292 : decode cX17_part 292 = .ok (.lload 14, 2) := by decide +kernel
theorem dX17_part_294 : decode cX17_part 294 = .ok (.lcmp, 1) := by decide +kernel
theorem dX17_part_295 : decode cX17_part 295 = .ok (.ifCond .le 8, 3) := by decide +kernel
theorem dX17_part_298 : decode cX17_part 298 = .ok (.lload 12, 2) := by decide +kernel
theorem dX17_part_300 : decode cX17_part 300 = .ok (.goto 5, 3) := by decide +kernel
theorem dX17_part_303 : decode cX17_part 303 = .ok (.lload 14, 2) := by decide +kernel
theorem dX17_part_305 : decode cX17_part 305 = .ok (.lstore 16, 2) := by decide +kernel
theorem dX17_part_307 : decode cX17_part 307 = .ok (.aload_n 0, 1) := by decide +kernel
theorem dX17_part_308 : decode cX17_part 308 = .ok (.getfield 204, 3) := by decide +kernel
theorem dX17_part_311 : decode cX17_part 311 = .ok (.ifCond .eq 25, 3) := by decide +kernel
theorem dX17_part_314 : decode cX17_part 314 = .ok (.lload 16, 2) := by decide +kernel
theorem dX17_part_316 : decode cX17_part 316 = .ok (.aload_n 0, 1) := by decide +kernel
theorem dX17_part_317 : decode cX17_part 317 = .ok (.getfield 192, 3) := by decide +kernel
theorem dX17_part_320 : decode cX17_part 320 = .ok (.lmul, 1) := by decide +kernel
theorem dX17_part_321 : decode cX17_part 321 = .ok (.aload_n 0, 1) := by decide +kernel
theorem dX17_part_322 : decode cX17_part 322 = .ok (.getfield 192, 3) := by decide +kernel
theorem dX17_part_325 : decode cX17_part 325 = .ok (.aload_n 0, 1) := by decide +kernel
theorem dX17_part_326 : decode cX17_part 326 = .ok (.getfield 195, 3) := by decide +kernel
theorem dX17_part_329 : decode cX17_part 329 = .ok (.lsub, 1) := by decide +kernel
theorem dX17_part_330 : decode cX17_part 330 = .ok (.invokestatic 233, 3) := by decide +kernel
theorem dX17_part_333 : decode cX17_part 333 = .ok (.goto 22, 3) := by decide +kernel
theorem dX17_part_336 : decode cX17_part 336 = .ok (.lload 16, 2) := by decide +kernel
theorem dX17_part_338 : decode cX17_part 338 = .ok (.aload_n 0, 1) := by decide +kernel
theorem dX17_part_339 : decode cX17_part 339 = .ok (.getfield 195, 3) := by decide +kernel
theorem dX17_part_342 : decode cX17_part 342 = .ok (.lmul, 1) := by decide +kernel
theorem dX17_part_343 : decode cX17_part 343 = .ok (.aload_n 0, 1) := by decide +kernel
theorem dX17_part_344 : decode cX17_part 344 = .ok (.getfield 195, 3) := by decide +kernel
theorem dX17_part_347 : decode cX17_part 347 = .ok (.aload_n 0, 1) := by decide +kernel
theorem dX17_part_348 : decode cX17_part 348 = .ok (.getfield 192, 3) := by decide +kernel
theorem dX17_part_351 : decode cX17_part 351 = .ok (.lsub, 1) := by decide +kernel
theorem dX17_part_352 : decode cX17_part 352 = .ok (.invokestatic 233, 3) := by decide +kernel
theorem dX17_part_355 : decode cX17_part 355 = .ok (.aload_n 0, 1) := by decide +kernel
theorem dX17_part_356 : decode cX17_part 356 = .ok (.iload 4, 2) := by decide +kernel
theorem dX17_part_358 : decode cX17_part 358 = .ok (.bipush 10, 2) := by decide +kernel
theorem dX17_part_360 : decode cX17_part 360 = .ok (.invokevirtual 218, 3) := by decide +kernel
theorem dX17_part_363 : decode cX17_part 363 = .ok (.i2l, 1) := by decide +kernel
theorem dX17_part_364 : decode cX17_part 364 = .ok (.ladd, 1) := by decide +kernel
theorem dX17_part_365 : decode cX17_part 365 = .ok (.lstore 18, 2) := by decide +kernel
theorem dX17_part_367 : decode cX17_part 367 = .ok (.aload_n 0, 1) := by decide +kernel
theorem dX17_part_368 : decode cX17_part 368 = .ok (.iload 5, 2) := by decide +kernel
theorem dX17_part_370 : decode cX17_part 370 = .ok (.ldc2_w 254, 3) := by decide +kernel
theorem dX17_part_373 : decode cX17_part 373 = .ok (.aload_n 0, 1) := by decide +kernel
theorem dX17_part_374 : decode cX17_part 374 = .ok (.getfield 198, 3) := by decide +kernel
theorem dX17_part_377 : decode cX17_part 377 = .ok (.lmul, 1) := by decide +kernel
theorem dX17_part_378 : decode cX17_part 378 = .ok (.aload_n 0, 1) := by decide +kernel
theorem dX17_part_379 : decode cX17_part 379 = .ok (.getfield 201, 3) := by decide +kernel
theorem dX17_part_382 : decode cX17_part 382 = .ok (.invokestatic 233, 3) := by decide +kernel
theorem dX17_part_385 : decode cX17_part 385 = .ok (.invokevirtual 256, 3) := by decide +kernel
theorem dX17_part_388 : decode cX17_part 388 = .ok (.istore 20, 2) := by decide +kernel
theorem dX17_part_390 : decode cX17_part 390 = .ok (.iload_n 1, 1) := by decide +kernel
theorem dX17_part_391 : decode cX17_part 391 = .ok (.istore 21, 2) := by decide +kernel
theorem dX17_part_393 : decode cX17_part 393 = .ok (.iload 21, 2) := by decide +kernel
theorem dX17_part_395 : decode cX17_part 395 = .ok (.iload_n 2, 1) := by decide +kernel
theorem dX17_part_396 : decode cX17_part 396 = .ok (.if_icmp .ge 95, 3) := by decide +kernel
theorem dX17_part_399 : decode cX17_part 399 = .ok (.aload_n 0, 1) := by decide +kernel
theorem dX17_part_400 : decode cX17_part 400 = .ok (.invokevirtual 228, 3) := by decide +kernel
theorem dX17_part_403 : decode cX17_part 403 = .ok (.i2l, 1) := by decide +kernel
theorem dX17_part_404 : decode cX17_part 404 = .ok (.bipush 47, 2) := by decide +kernel
theorem dX17_part_406 : decode cX17_part 406 = .ok (.iconst 2, 1) := by decide +kernel
theorem dX17_part_407 : decode cX17_part 407 = .ok (.iload 21, 2) := by decide +kernel
theorem dX17_part_409 : decode cX17_part 409 = .ok (.imul, 1) := by decide +kernel
theorem dX17_part_410 : decode cX17_part 410 = .ok (.isub, 1) := by decide +kernel
theorem dX17_part_411 : decode cX17_part 411 = .ok (.i2l, 1) := by decide +kernel
theorem dX17_part_412 : decode cX17_part 412 = .ok (.ldc2_w 263, 3) := by decide +kernel
theorem dX17_part_415 : decode cX17_part 415 = .ok (.lmul, 1) := by decide +kernel
theorem dX17_part_416 : decode cX17_part 416 = .ok (.aload_n 0, 1) := by decide +kernel
theorem dX17_part_417 : decode cX17_part 417 = .ok (.getfield 198, 3) := by decide +kernel
theorem dX17_part_420 : decode cX17_part 420 = .ok (.lmul, 1) := by decide +kernel
theorem dX17_part_421 : decode cX17_part 421 = .ok (.aload_n 0, 1) := by decide +kernel
theorem dX17_part_422 : decode cX17_part 422 = .ok (.getfield 201, 3) := by decide +kernel
theorem dX17_part_425 : decode cX17_part 425 = .ok (.invokestatic 233, 3) := by decide +kernel
theorem dX17_part_428 : decode cX17_part 428 = .ok (.ladd, 1) := by decide +kernel
theorem dX17_part_429 : decode cX17_part 429 = .ok (.lstore 22, 2) := by decide +kernel
theorem dX17_part_431 : decode cX17_part 431 = .ok (.aload_n 0, 1) := by decide +kernel
theorem dX17_part_432 : decode cX17_part 432 = .ok (.getfield 51, 3) := by decide +kernel
theorem dX17_part_435 : decode cX17_part 435 = .ok (.iload 21, 2) := by decide +kernel
theorem dX17_part_437 : decode cX17_part 437 = .ok (.sipush 256, 3) := by decide +kernel
theorem dX17_part_440 : decode cX17_part 440 = .ok (.iload_n 3, 1) := by decide +kernel
theorem dX17_part_441 : decode cX17_part 441 = .ok (.imul, 1) := by decide +kernel
theorem dX17_part_442 : decode cX17_part 442 = .ok (.iload 4, 2) := by decide +kernel
theorem dX17_part_444 : decode cX17_part 444 = .ok (.iadd, 1) := by decide +kernel
theorem dX17_part_445 : decode cX17_part 445 = .ok (.iastore, 1) := by decide +kernel
theorem dX17_part_446 : decode cX17_part 446 = .ok (.aload_n 0, 1) := by decide +kernel
theorem dX17_part_447 : decode cX17_part 447 = .ok (.getfield 54, 3) := by decide +kernel
theorem dX17_part_450 : decode cX17_part 450 = .ok (.iload 21, 2) := by decide +kernel
theorem dX17_part_452 : decode cX17_part 452 = .ok (.bipush 16, 2) := by decide +kernel
theorem dX17_part_454 : decode cX17_part 454 = .ok (.aload_n 0, 1) := by decide +kernel
theorem dX17_part_455 : decode cX17_part 455 = .ok (.iload 7, 2) := by decide +kernel
theorem dX17_part_457 : decode cX17_part 457 = .ok (.lload 18, 2) := by decide +kernel
theorem dX17_part_459 : decode cX17_part 459 = .ok (.iload 11, 2) := by decide +kernel
theorem dX17_part_461 : decode cX17_part 461 = .ok (.iconst 1, 1) := by decide +kernel
theorem dX17_part_462 : decode cX17_part 462 = .ok (.isub, 1) := by decide +kernel
theorem dX17_part_463 : decode cX17_part 463 = .ok (.i2l, 1) := by decide +kernel
theorem dX17_part_464 : decode cX17_part 464 = .ok (.lload 22, 2) := by decide +kernel
theorem dX17_part_466 : decode cX17_part 466 = .ok (.lsub, 1) := by decide +kernel
theorem dX17_part_467 : decode cX17_part 467 = .ok (.aload_n 0, 1) := by decide +kernel
theorem dX17_part_468 : decode cX17_part 468 = .ok (.iload 4, 2) := by decide +kernel
theorem dX17_part_470 : decode cX17_part 470 = .ok (.bipush 11, 2) := by decide +kernel
theorem dX17_part_472 : decode cX17_part 472 = .ok (.invokevirtual 218, 3) := by decide +kernel
theorem dX17_part_475 : decode cX17_part 475 = .ok (.i2l, 1) := by decide +kernel
theorem dX17_part_476 : decode cX17_part 476 = .ok (.ladd, 1) := by decide +kernel
theorem dX17_part_477 : decode cX17_part 477 = .ok (.invokevirtual 250, 3) := by decide +kernel
theorem dX17_part_480 : decode cX17_part 480 = .ok (.imul, 1) := by decide +kernel
theorem dX17_part_481 : decode cX17_part 481 = .ok (.iload 20, 2) := by decide +kernel
theorem dX17_part_483 : decode cX17_part 483 = .ok (.iadd, 1) := by decide +kernel
theorem dX17_part_484 : decode cX17_part 484 = .ok (.iastore, 1) := by decide +kernel
theorem dX17_part_485 : decode cX17_part 485 = .ok (.iinc 21 1, 3) := by decide +kernel
theorem dX17_part_488 : decode cX17_part 488 = .ok (.goto (-95), 3) := by decide +kernel
theorem dX17_part_491 : decode cX17_part 491 = .ok (.return_, 1) := by decide +kernel
theorem dX17_column_0 : decode cX17_column 0 = .ok (.aload_n 0, 1) := by decide +kernel
theorem dX17_column_1 : decode cX17_column 1 = .ok (.ldc2_w 254, 3) := by decide +kernel
theorem dX17_column_4 : decode cX17_column 4 = .ok (.aload_n 0, 1) := by decide +kernel
theorem dX17_column_5 : decode cX17_column 5 = .ok (.getfield 265, 3) := by decide +kernel
theorem dX17_column_8 : decode cX17_column 8 = .ok (.invokestatic 67, 3) := by decide +kernel
theorem dX17_column_11 : decode cX17_column 11 = .ok (.i2l, 1) := by decide +kernel
theorem dX17_column_12 : decode cX17_column 12 = .ok (.lmul, 1) := by decide +kernel
theorem dX17_column_13 : decode cX17_column 13 = .ok (.ldc2_w 268, 3) := by decide +kernel
theorem dX17_column_16 : decode cX17_column 16 = .ok (.iload_n 1, 1) := by decide +kernel
theorem dX17_column_17 : decode cX17_column 17 = .ok (.i2l, 1) := by decide +kernel
theorem dX17_column_18 : decode cX17_column 18 = .ok (.lmul, 1) := by decide +kernel
theorem dX17_column_19 : decode cX17_column 19 = .ok (.ldc2_w 270, 3) := by decide +kernel
theorem dX17_column_22 : decode cX17_column 22 = .ok (.lsub, 1) := by decide +kernel
theorem dX17_column_23 : decode cX17_column 23 = .ok (.aload_n 0, 1) := by decide +kernel
theorem dX17_column_24 : decode cX17_column 24 = .ok (.getfield 265, 3) := by decide +kernel
theorem dX17_column_27 : decode cX17_column 27 = .ok (.invokestatic 272, 3) := by decide +kernel
theorem dX17_column_30 : decode cX17_column 30 = .ok (.i2l, 1) := by decide +kernel
theorem dX17_column_31 : decode cX17_column 31 = .ok (.lmul, 1) := by decide +kernel
theorem dX17_column_32 : decode cX17_column 32 = .ok (.ladd, 1) := by decide +kernel
theorem dX17_column_33 : decode cX17_column 33 = .ok (.ldc2_w 254, 3) := by decide +kernel
theorem dX17_column_36 : decode cX17_column 36 = .ok (.aload_n 0, 1) := by decide +kernel
theorem dX17_column_37 : decode cX17_column 37 = .ok (.getfield 265, 3) := by decide +kernel
theorem dX17_column_40 : decode cX17_column 40 = .ok (.invokestatic 272, 3) := by decide +kernel
theorem dX17_column_43 : decode cX17_column 43 = .ok (.i2l, 1) := by decide +kernel
theorem dX17_column_44 : decode cX17_column 44 = .ok (.lmul, 1) := by decide +kernel
theorem dX17_column_45 : decode cX17_column 45 = .ok (.ldc2_w 268, 3) := by decide +kernel
theorem dX17_column_48 : decode cX17_column 48 = .ok (.iload_n 1, 1) := by decide +kernel
theorem dX17_column_49 : decode cX17_column 49 = .ok (.i2l, 1) := by decide +kernel
theorem dX17_column_50 : decode cX17_column 50 = .ok (.lmul, 1) := by decide +kernel
theorem dX17_column_51 : decode cX17_column 51 = .ok (.ldc2_w 270, 3) := by decide +kernel
theorem dX17_column_54 : decode cX17_column 54 = .ok (.lsub, 1) := by decide +kernel
theorem dX17_column_55 : decode cX17_column 55 = .ok (.aload_n 0, 1) := by decide +kernel
theorem dX17_column_56 : decode cX17_column 56 = .ok (.getfield 265, 3) := by decide +kernel
theorem dX17_column_59 : decode cX17_column 59 = .ok (.invokestatic 67, 3) := by decide +kernel
theorem dX17_column_62 : decode cX17_column 62 = .ok (.i2l, 1) := by decide +kernel
theorem dX17_column_63 : decode cX17_column 63 = .ok (.lmul, 1) := by decide +kernel
theorem dX17_column_64 : decode cX17_column 64 = .ok (.lsub, 1) := by decide +kernel
theorem dX17_column_65 : decode cX17_column 65 = .ok (.invokevirtual 275, 3) := by decide +kernel
theorem dX17_column_68 : decode cX17_column 68 = .ok (.iconst 0, 1) := by decide +kernel
theorem dX17_column_69 : decode cX17_column 69 = .ok (.istore_n 2, 1) := by decide +kernel
theorem dX17_column_70 : decode cX17_column 70 = .ok (.bipush 48, 2) := by decide +kernel
theorem dX17_column_72 : decode cX17_column 72 = .ok (.istore_n 3, 1) := by decide +kernel
theorem dX17_column_73 : decode cX17_column 73 = .ok (.aload_n 0, 1) := by decide +kernel
theorem dX17_column_74 : decode cX17_column 74 = .ok (.iconst 0, 1) := by decide +kernel
theorem dX17_column_75 : decode cX17_column 75 = .ok (.putfield 279, 3) := by decide +kernel
theorem dX17_column_78 : decode cX17_column 78 = .ok (.iconst 0, 1) := by decide +kernel
theorem dX17_column_79 : decode cX17_column 79 = .ok (.istore 4, 2) := by decide +kernel
theorem dX17_column_81 : decode cX17_column 81 = .ok (.iload 4, 2) := by decide +kernel
theorem dX17_column_83 : decode cX17_column 83 = .ok (.bipush 48, 2) := by decide +kernel
theorem dX17_column_85 : decode cX17_column 85 = .ok (.if_icmp .ge 25, 3) := by decide +kernel
theorem dX17_column_88 : decode cX17_column 88 = .ok (.aload_n 0, 1) := by decide +kernel
theorem dX17_column_89 : decode cX17_column 89 = .ok (.getfield 51, 3) := by decide +kernel
theorem dX17_column_92 : decode cX17_column 92 = .ok (.iload 4, 2) := by decide +kernel
theorem dX17_column_94 : decode cX17_column 94 = .ok (.iconst 0, 1) := by decide +kernel
theorem dX17_column_95 : decode cX17_column 95 = .ok (.iastore, 1) := by decide +kernel
theorem dX17_column_96 : decode cX17_column 96 = .ok (.aload_n 0, 1) := by decide +kernel
theorem dX17_column_97 : decode cX17_column 97 = .ok (.getfield 54, 3) := by decide +kernel
theorem dX17_column_100 : decode cX17_column 100 = .ok (.iload 4, 2) := by decide +kernel
theorem dX17_column_102 : decode cX17_column 102 = .ok (.iconst 0, 1) := by decide +kernel
theorem dX17_column_103 : decode cX17_column 103 = .ok (.iastore, 1) := by decide +kernel
theorem dX17_column_104 : decode cX17_column 104 = .ok (.iinc 4 1, 3) := by decide +kernel
theorem dX17_column_107 : decode cX17_column 107 = .ok (.goto (-26), 3) := by decide +kernel
theorem dX17_column_110 : decode cX17_column 110 = .ok (.iconst 0, 1) := by decide +kernel
theorem dX17_column_111 : decode cX17_column 111 = .ok (.istore 4, 2) := by decide +kernel
theorem dX17_column_113 : decode cX17_column 113 = .ok (.iload 4, 2) := by decide +kernel
theorem dX17_column_115 : decode cX17_column 115 = .ok (.aload_n 0, 1) := by decide +kernel
theorem dX17_column_116 : decode cX17_column 116 = .ok (.getfield 207, 3) := by decide +kernel
theorem dX17_column_119 : decode cX17_column 119 = .ok (.if_icmp .ge 280, 3) := by decide +kernel
theorem dX17_column_122 : decode cX17_column 122 = .ok (.iload_n 2, 1) := by decide +kernel
theorem dX17_column_123 : decode cX17_column 123 = .ok (.iload_n 3, 1) := by decide +kernel
theorem dX17_column_124 : decode cX17_column 124 = .ok (.if_icmp .ge 275, 3) := by decide +kernel
theorem dX17_column_127 : decode cX17_column 127 = .ok (.aload_n 0, 1) := by decide +kernel
theorem dX17_column_128 : decode cX17_column 128 = .ok (.getfield 45, 3) := by decide +kernel
theorem dX17_column_131 : decode cX17_column 131 = .ok (.iload 4, 2) := by decide +kernel
theorem dX17_column_133 : decode cX17_column 133 = .ok (.iaload, 1) := by decide +kernel
theorem dX17_column_134 : decode cX17_column 134 = .ok (.istore 5, 2) := by decide +kernel
theorem dX17_column_136 : decode cX17_column 136 = .ok (.aload_n 0, 1) := by decide +kernel
theorem dX17_column_137 : decode cX17_column 137 = .ok (.iload 5, 2) := by decide +kernel
theorem dX17_column_139 : decode cX17_column 139 = .ok (.invokevirtual 210, 3) := by decide +kernel
theorem dX17_column_142 : decode cX17_column 142 = .ok (.istore 6, 2) := by decide +kernel
theorem dX17_column_144 : decode cX17_column 144 = .ok (.aload_n 0, 1) := by decide +kernel
theorem dX17_column_145 : decode cX17_column 145 = .ok (.iload 5, 2) := by decide +kernel
theorem dX17_column_147 : decode cX17_column 147 = .ok (.iconst 1, 1) := by decide +kernel
theorem dX17_column_148 : decode cX17_column 148 = .ok (.invokevirtual 260, 3) := by decide +kernel
theorem dX17_column_151 : decode cX17_column 151 = .ok (.istore 7, 2) := by decide +kernel
theorem dX17_column_153 : decode cX17_column 153 = .ok (.aload_n 0, 1) := by decide +kernel
theorem dX17_column_154 : decode cX17_column 154 = .ok (.iload 5, 2) := by decide +kernel
theorem dX17_column_156 : decode cX17_column 156 = .ok (.iconst 0, 1) := by decide +kernel
theorem dX17_column_157 : decode cX17_column 157 = .ok (.invokevirtual 260, 3) := by decide +kernel
theorem dX17_column_160 : decode cX17_column 160 = .ok (.istore 8, 2) := by decide +kernel
theorem dX17_column_162 : decode cX17_column 162 = .ok (.iload 7, 2) := by decide +kernel
theorem dX17_column_164 : decode cX17_column 164 = .ok (.ifCond .ge 6, 3) := by decide +kernel
theorem dX17_column_167 : decode cX17_column 167 = .ok (.goto 226, 3) := by decide +kernel
theorem dX17_column_170 : decode cX17_column 170 = .ok (.aload_n 0, 1) := by decide +kernel
theorem dX17_column_171 : decode cX17_column 171 = .ok (.getfield 48, 3) := by decide +kernel
theorem dX17_column_174 : decode cX17_column 174 = .ok (.aload_n 0, 1) := by decide +kernel
theorem dX17_column_175 : decode cX17_column 175 = .ok (.getfield 279, 3) := by decide +kernel
theorem dX17_column_178 : decode cX17_column 178 = .ok (.iload 5, 2) := by decide +kernel
theorem dX17_column_180 : decode cX17_column 180 = .ok (.iastore, 1) := by decide +kernel
theorem dX17_column_181 : decode cX17_column 181 = .ok (.aload_n 0, 1) := by decide +kernel
theorem dX17_column_182 : decode cX17_column 182 = .ok (.dup, 1) := by decide +kernel
theorem dX17_column_183 : decode cX17_column 183 = .ok (.getfield 279, 3) := by decide +kernel
theorem dX17_column_186 : decode cX17_column 186 = .ok (.iconst 1, 1) := by decide +kernel
theorem dX17_column_187 : decode cX17_column 187 = .ok (.iadd, 1) := by decide +kernel
theorem dX17_column_188 : decode cX17_column 188 = .ok (.putfield 279, 3) := by decide +kernel
theorem dX17_column_191 : decode cX17_column 191 = .ok (.aload_n 0, 1) := by decide +kernel
theorem dX17_column_192 : decode cX17_column 192 = .ok (.aload_n 0, 1) := by decide +kernel
theorem dX17_column_193 : decode cX17_column 193 = .ok (.getfield 26, 3) := by decide +kernel
theorem dX17_column_196 : decode cX17_column 196 = .ok (.getfield 247, 3) := by decide +kernel
theorem dX17_column_199 : decode cX17_column 199 = .ok (.iload 7, 2) := by decide +kernel
theorem dX17_column_201 : decode cX17_column 201 = .ok (.iaload, 1) := by decide +kernel
theorem dX17_column_202 : decode cX17_column 202 = .ok (.iload_n 2, 1) := by decide +kernel
theorem dX17_column_203 : decode cX17_column 203 = .ok (.iload_n 3, 1) := by decide +kernel
theorem dX17_column_204 : decode cX17_column 204 = .ok (.invokevirtual 282, 3) := by decide +kernel
theorem dX17_column_207 : decode cX17_column 207 = .ok (.istore 9, 2) := by decide +kernel
theorem dX17_column_209 : decode cX17_column 209 = .ok (.aload_n 0, 1) := by decide +kernel
theorem dX17_column_210 : decode cX17_column 210 = .ok (.aload_n 0, 1) := by decide +kernel
theorem dX17_column_211 : decode cX17_column 211 = .ok (.getfield 26, 3) := by decide +kernel
theorem dX17_column_214 : decode cX17_column 214 = .ok (.getfield 221, 3) := by decide +kernel
theorem dX17_column_217 : decode cX17_column 217 = .ok (.iload 7, 2) := by decide +kernel
theorem dX17_column_219 : decode cX17_column 219 = .ok (.iaload, 1) := by decide +kernel
theorem dX17_column_220 : decode cX17_column 220 = .ok (.iload 9, 2) := by decide +kernel
theorem dX17_column_222 : decode cX17_column 222 = .ok (.iload_n 3, 1) := by decide +kernel
theorem dX17_column_223 : decode cX17_column 223 = .ok (.invokevirtual 282, 3) := by decide +kernel
theorem dX17_column_226 : decode cX17_column 226 = .ok (.istore 10, 2) := by decide +kernel
theorem dX17_column_228 : decode cX17_column 228 = .ok (.aload_n 0, 1) := by decide +kernel
theorem dX17_column_229 : decode cX17_column 229 = .ok (.iload_n 2, 1) := by decide +kernel
theorem dX17_column_230 : decode cX17_column 230 = .ok (.iload 9, 2) := by decide +kernel
theorem dX17_column_232 : decode cX17_column 232 = .ok (.iconst 1, 1) := by decide +kernel
theorem dX17_column_233 : decode cX17_column 233 = .ok (.iload 7, 2) := by decide +kernel
theorem dX17_column_235 : decode cX17_column 235 = .ok (.invokevirtual 286, 3) := by decide +kernel
theorem dX17_column_238 : decode cX17_column 238 = .ok (.aload_n 0, 1) := by decide +kernel
theorem dX17_column_239 : decode cX17_column 239 = .ok (.iload 10, 2) := by decide +kernel
theorem dX17_column_241 : decode cX17_column 241 = .ok (.iload_n 3, 1) := by decide +kernel
theorem dX17_column_242 : decode cX17_column 242 = .ok (.iconst 2, 1) := by decide +kernel
theorem dX17_column_243 : decode cX17_column 243 = .ok (.iload 7, 2) := by decide +kernel
theorem dX17_column_245 : decode cX17_column 245 = .ok (.invokevirtual 286, 3) := by decide +kernel
theorem dX17_column_248 : decode cX17_column 248 = .ok (.iload 8, 2) := by decide +kernel
theorem dX17_column_250 : decode cX17_column 250 = .ok (.ifCond .ge 19, 3) := by decide +kernel
theorem dX17_column_253 : decode cX17_column 253 = .ok (.aload_n 0, 1) := by decide +kernel
theorem dX17_column_254 : decode cX17_column 254 = .ok (.iload 9, 2) := by decide +kernel
theorem dX17_column_256 : decode cX17_column 256 = .ok (.iload 10, 2) := by decide +kernel
theorem dX17_column_258 : decode cX17_column 258 = .ok (.iconst 3, 1) := by decide +kernel
theorem dX17_column_259 : decode cX17_column 259 = .ok (.iload 5, 2) := by decide +kernel
theorem dX17_column_261 : decode cX17_column 261 = .ok (.invokevirtual 290, 3) := by decide +kernel
theorem dX17_column_264 : decode cX17_column 264 = .ok (.iload_n 3, 1) := by decide +kernel
theorem dX17_column_265 : decode cX17_column 265 = .ok (.istore_n 2, 1) := by decide +kernel
theorem dX17_column_266 : decode cX17_column 266 = .ok (.goto 127, 3) := by decide +kernel
theorem dX17_column_269 : decode cX17_column 269 = .ok (.aload_n 0, 1) := by decide +kernel
theorem dX17_column_270 : decode cX17_column 270 = .ok (.getfield 26, 3) := by decide +kernel
theorem dX17_column_273 : decode cX17_column 273 = .ok (.getfield 247, 3) := by decide +kernel
theorem dX17_column_276 : decode cX17_column 276 = .ok (.iload 8, 2) := by decide +kernel
theorem dX17_column_278 : decode cX17_column 278 = .ok (.iaload, 1) := by decide +kernel
theorem dX17_column_279 : decode cX17_column 279 = .ok (.aload_n 0, 1) := by decide +kernel
theorem dX17_column_280 : decode cX17_column 280 = .ok (.getfield 26, 3) := by decide +kernel
theorem dX17_column_283 : decode cX17_column 283 = .ok (.getfield 247, 3) := by decide +kernel
theorem dX17_column_286 : decode cX17_column 286 = .ok (.iload 7, 2) := by decide +kernel
theorem dX17_column_288 : decode cX17_column 288 = .ok (.iaload, 1) := by decide +kernel
theorem dX17_column_289 : decode cX17_column 289 = .ok (.if_icmp .ge 24, 3) := by decide +kernel
theorem dX17_column_292 : decode cX17_column 292 = .ok (.aload_n 0, 1) := by decide +kernel
theorem dX17_column_293 : decode cX17_column 293 = .ok (.aload_n 0, 1) := by decide +kernel
theorem dX17_column_294 : decode cX17_column 294 = .ok (.getfield 26, 3) := by decide +kernel
theorem dX17_column_297 : decode cX17_column 297 = .ok (.getfield 247, 3) := by decide +kernel
theorem dX17_column_300 : decode cX17_column 300 = .ok (.iload 8, 2) := by decide +kernel
theorem dX17_column_302 : decode cX17_column 302 = .ok (.iaload, 1) := by decide +kernel
theorem dX17_column_303 : decode cX17_column 303 = .ok (.iload 9, 2) := by decide +kernel
theorem dX17_column_305 : decode cX17_column 305 = .ok (.iload 10, 2) := by decide +kernel
theorem dX17_column_307 : decode cX17_column 307 = .ok (.invokevirtual 282, 3) := by decide +kernel
theorem dX17_column_310 : decode cX17_column 310 = .ok (.goto 5, 3) := by decide +kernel
theorem dX17_column_313 : decode cX17_column 313 = .ok (.iload 9, 2) := by decide +kernel
theorem dX17_column_315 : decode cX17_column 315 = .ok (.istore 11, 2) := by decide +kernel
theorem dX17_column_317 : decode cX17_column 317 = .ok (.aload_n 0, 1) := by decide +kernel
theorem dX17_column_318 : decode cX17_column 318 = .ok (.getfield 26, 3) := by decide +kernel
theorem dX17_column_321 : decode cX17_column 321 = .ok (.getfield 221, 3) := by decide +kernel
theorem dX17_column_324 : decode cX17_column 324 = .ok (.iload 8, 2) := by decide +kernel
theorem dX17_column_326 : decode cX17_column 326 = .ok (.iaload, 1) := by decide +kernel
theorem dX17_column_327 : decode cX17_column 327 = .ok (.aload_n 0, 1) := by decide +kernel
theorem dX17_column_328 : decode cX17_column 328 = .ok (.getfield 26, 3) := by decide +kernel
theorem dX17_column_331 : decode cX17_column 331 = .ok (.getfield 221, 3) := by decide +kernel
theorem dX17_column_334 : decode cX17_column 334 = .ok (.iload 7, 2) := by decide +kernel
theorem dX17_column_336 : decode cX17_column 336 = .ok (.iaload, 1) := by decide +kernel
theorem dX17_column_337 : decode cX17_column 337 = .ok (.if_icmp .le 24, 3) := by decide +kernel
theorem dX17_column_340 : decode cX17_column 340 = .ok (.aload_n 0, 1) := by decide +kernel
theorem dX17_column_341 : decode cX17_column 341 = .ok (.aload_n 0, 1) := by decide +kernel
theorem dX17_column_342 : decode cX17_column 342 = .ok (.getfield 26, 3) := by decide +kernel
theorem dX17_column_345 : decode cX17_column 345 = .ok (.getfield 221, 3) := by decide +kernel
theorem dX17_column_348 : decode cX17_column 348 = .ok (.iload 8, 2) := by decide +kernel
theorem dX17_column_350 : decode cX17_column 350 = .ok (.iaload, 1) := by decide +kernel
theorem dX17_column_351 : decode cX17_column 351 = .ok (.iload 11, 2) := by decide +kernel
theorem dX17_column_353 : decode cX17_column 353 = .ok (.iload 10, 2) := by decide +kernel
theorem dX17_column_355 : decode cX17_column 355 = .ok (.invokevirtual 282, 3) := by decide +kernel
theorem dX17_column_358 : decode cX17_column 358 = .ok (.goto 5, 3) := by decide +kernel
theorem dX17_column_361 : decode cX17_column 361 = .ok (.iload 10, 2) := by decide +kernel
theorem dX17_column_363 : decode cX17_column 363 = .ok (.istore 12, 2) := by decide +kernel
theorem dX17_column_365 : decode cX17_column 365 = .ok (.aload_n 0, 1) := by decide +kernel
theorem dX17_column_366 : decode cX17_column 366 = .ok (.iload 9, 2) := by decide +kernel
theorem dX17_column_368 : decode cX17_column 368 = .ok (.iload 11, 2) := by decide +kernel
theorem dX17_column_370 : decode cX17_column 370 = .ok (.iconst 4, 1) := by decide +kernel
theorem dX17_column_371 : decode cX17_column 371 = .ok (.iload 5, 2) := by decide +kernel
theorem dX17_column_373 : decode cX17_column 373 = .ok (.invokevirtual 290, 3) := by decide +kernel
theorem dX17_column_376 : decode cX17_column 376 = .ok (.aload_n 0, 1) := by decide +kernel
theorem dX17_column_377 : decode cX17_column 377 = .ok (.iload 12, 2) := by decide +kernel
theorem dX17_column_379 : decode cX17_column 379 = .ok (.iload 10, 2) := by decide +kernel
theorem dX17_column_381 : decode cX17_column 381 = .ok (.iconst 5, 1) := by decide +kernel
theorem dX17_column_382 : decode cX17_column 382 = .ok (.iload 5, 2) := by decide +kernel
theorem dX17_column_384 : decode cX17_column 384 = .ok (.invokevirtual 290, 3) := by decide +kernel
theorem dX17_column_387 : decode cX17_column 387 = .ok (.iload 11, 2) := by decide +kernel
theorem dX17_column_389 : decode cX17_column 389 = .ok (.istore_n 2, 1) := by decide +kernel
theorem dX17_column_390 : decode cX17_column 390 = .ok (.iload 12, 2) := by decide +kernel
theorem dX17_column_392 : decode cX17_column 392 = .ok (.istore_n 3, 1) := by decide +kernel
theorem dX17_column_393 : decode cX17_column 393 = .ok (.iinc 4 1, 3) := by decide +kernel
theorem dX17_column_396 : decode cX17_column 396 = .ok (.goto (-283), 3) := by decide +kernel
theorem dX17_column_399 : decode cX17_column 399 = .ok (.return_, 1) := by decide +kernel
theorem dX17_pixelAt_0 : decode cX17_pixelAt 0 = .ok (.aload_n 0, 1) := by decide +kernel
theorem dX17_pixelAt_1 : decode cX17_pixelAt 1 = .ok (.iconst 0, 1) := by decide +kernel
theorem dX17_pixelAt_2 : decode cX17_pixelAt 2 = .ok (.putfield 60, 3) := by decide +kernel
theorem dX17_pixelAt_5 : decode cX17_pixelAt 5 = .ok (.aload_n 0, 1) := by decide +kernel
theorem dX17_pixelAt_6 : decode cX17_pixelAt 6 = .ok (.iload_n 1, 1) := by decide +kernel
theorem dX17_pixelAt_7 : decode cX17_pixelAt 7 = .ok (.iload_n 2, 1) := by decide +kernel
theorem dX17_pixelAt_8 : decode cX17_pixelAt 8 = .ok (.invokevirtual 293, 3) := by decide +kernel
theorem dX17_pixelAt_11 : decode cX17_pixelAt 11 = .ok (.ifCond .ne 5, 3) := by decide +kernel
theorem dX17_pixelAt_14 : decode cX17_pixelAt 14 = .ok (.iconst (-1), 1) := by decide +kernel
theorem dX17_pixelAt_15 : decode cX17_pixelAt 15 = .ok (.ireturn, 1) := by decide +kernel
theorem dX17_pixelAt_16 : decode cX17_pixelAt 16 = .ok (.aload_n 0, 1) := by decide +kernel
theorem dX17_pixelAt_17 : decode cX17_pixelAt 17 = .ok (.iload_n 1, 1) := by decide +kernel
theorem dX17_pixelAt_18 : decode cX17_pixelAt 18 = .ok (.invokevirtual 296, 3) := by decide +kernel
theorem dX17_pixelAt_21 : decode cX17_pixelAt 21 = .ok (.aload_n 0, 1) := by decide +kernel
theorem dX17_pixelAt_22 : decode cX17_pixelAt 22 = .ok (.getfield 54, 3) := by decide +kernel
theorem dX17_pixelAt_25 : decode cX17_pixelAt 25 = .ok (.iload_n 2, 1) := by decide +kernel
theorem dX17_pixelAt_26 : decode cX17_pixelAt 26 = .ok (.iaload, 1) := by decide +kernel
theorem dX17_pixelAt_27 : decode cX17_pixelAt 27 = .ok (.ireturn, 1) := by decide +kernel
theorem dX12_surfaceAt_0 : decode cX12_surfaceAt 0 = .ok (.aload_n 0, 1) := by decide +kernel
theorem dX12_surfaceAt_1 : decode cX12_surfaceAt 1 = .ok (.iload_n 1, 1) := by decide +kernel
theorem dX12_surfaceAt_2 : decode cX12_surfaceAt 2 = .ok (.invokevirtual 223, 3) := by decide +kernel
theorem dX12_surfaceAt_5 : decode cX12_surfaceAt 5 = .ok (.ifCond .eq 13, 3) := by decide +kernel
theorem dX12_surfaceAt_8 : decode cX12_surfaceAt 8 = .ok (.iload_n 2, 1) := by decide +kernel
theorem dX12_surfaceAt_9 : decode cX12_surfaceAt 9 = .ok (.ifCond .lt 9, 3) := by decide +kernel
theorem dX12_surfaceAt_12 : decode cX12_surfaceAt 12 = .ok (.iload_n 2, 1) := by decide +kernel
theorem dX12_surfaceAt_13 : decode cX12_surfaceAt 13 = .ok (.bipush 48, 2) := by decide +kernel
theorem dX12_surfaceAt_15 : decode cX12_surfaceAt 15 = .ok (.if_icmp .lt 5, 3) := by decide +kernel
theorem dX12_surfaceAt_18 : decode cX12_surfaceAt 18 = .ok (.iconst (-1), 1) := by decide +kernel
theorem dX12_surfaceAt_19 : decode cX12_surfaceAt 19 = .ok (.ireturn, 1) := by decide +kernel
theorem dX12_surfaceAt_20 : decode cX12_surfaceAt 20 = .ok (.aload_n 0, 1) := by decide +kernel
theorem dX12_surfaceAt_21 : decode cX12_surfaceAt 21 = .ok (.getfield 62, 3) := by decide +kernel
theorem dX12_surfaceAt_24 : decode cX12_surfaceAt 24 = .ok (.aload_n 0, 1) := by decide +kernel
theorem dX12_surfaceAt_25 : decode cX12_surfaceAt 25 = .ok (.getfield 53, 3) := by decide +kernel
theorem dX12_surfaceAt_28 : decode cX12_surfaceAt 28 = .ok (.iload_n 1, 1) := by decide +kernel
theorem dX12_surfaceAt_29 : decode cX12_surfaceAt 29 = .ok (.invokevirtual 226, 3) := by decide +kernel
theorem dX12_surfaceAt_32 : decode cX12_surfaceAt 32 = .ok (.aload_n 0, 1) := by decide +kernel
theorem dX12_surfaceAt_33 : decode cX12_surfaceAt 33 = .ok (.getfield 62, 3) := by decide +kernel
theorem dX12_surfaceAt_36 : decode cX12_surfaceAt 36 = .ok (.getfield 233, 3) := by decide +kernel
theorem dX12_surfaceAt_39 : decode cX12_surfaceAt 39 = .ok (.iload_n 2, 1) := by decide +kernel
theorem dX12_surfaceAt_40 : decode cX12_surfaceAt 40 = .ok (.iaload, 1) := by decide +kernel
theorem dX12_surfaceAt_41 : decode cX12_surfaceAt 41 = .ok (.ireturn, 1) := by decide +kernel
theorem dX17_surfaceAt_0 : decode cX17_surfaceAt 0 = .ok (.aload_n 0, 1) := by decide +kernel
theorem dX17_surfaceAt_1 : decode cX17_surfaceAt 1 = .ok (.iconst 0, 1) := by decide +kernel
theorem dX17_surfaceAt_2 : decode cX17_surfaceAt 2 = .ok (.putfield 60, 3) := by decide +kernel
theorem dX17_surfaceAt_5 : decode cX17_surfaceAt 5 = .ok (.aload_n 0, 1) := by decide +kernel
theorem dX17_surfaceAt_6 : decode cX17_surfaceAt 6 = .ok (.iload_n 1, 1) := by decide +kernel
theorem dX17_surfaceAt_7 : decode cX17_surfaceAt 7 = .ok (.iload_n 2, 1) := by decide +kernel
theorem dX17_surfaceAt_8 : decode cX17_surfaceAt 8 = .ok (.invokevirtual 293, 3) := by decide +kernel
theorem dX17_surfaceAt_11 : decode cX17_surfaceAt 11 = .ok (.ifCond .ne 5, 3) := by decide +kernel
theorem dX17_surfaceAt_14 : decode cX17_surfaceAt 14 = .ok (.iconst (-1), 1) := by decide +kernel
theorem dX17_surfaceAt_15 : decode cX17_surfaceAt 15 = .ok (.ireturn, 1) := by decide +kernel
theorem dX17_surfaceAt_16 : decode cX17_surfaceAt 16 = .ok (.aload_n 0, 1) := by decide +kernel
theorem dX17_surfaceAt_17 : decode cX17_surfaceAt 17 = .ok (.iload_n 1, 1) := by decide +kernel
theorem dX17_surfaceAt_18 : decode cX17_surfaceAt 18 = .ok (.invokevirtual 296, 3) := by decide +kernel
theorem dX17_surfaceAt_21 : decode cX17_surfaceAt 21 = .ok (.aload_n 0, 1) := by decide +kernel
theorem dX17_surfaceAt_22 : decode cX17_surfaceAt 22 = .ok (.getfield 51, 3) := by decide +kernel
theorem dX17_surfaceAt_25 : decode cX17_surfaceAt 25 = .ok (.iload_n 2, 1) := by decide +kernel
theorem dX17_surfaceAt_26 : decode cX17_surfaceAt 26 = .ok (.iaload, 1) := by decide +kernel
theorem dX17_surfaceAt_27 : decode cX17_surfaceAt 27 = .ok (.ireturn, 1) := by decide +kernel
theorem dX12_metAt_0 : decode cX12_metAt 0 = .ok (.aload_n 0, 1) := by decide +kernel
theorem dX12_metAt_1 : decode cX12_metAt 1 = .ok (.iload_n 1, 1) := by decide +kernel
theorem dX12_metAt_2 : decode cX12_metAt 2 = .ok (.invokevirtual 223, 3) := by decide +kernel
theorem dX12_metAt_5 : decode cX12_metAt 5 = .ok (.ifCond .eq 7, 3) := by decide +kernel
theorem dX12_metAt_8 : decode cX12_metAt 8 = .ok (.iload_n 2, 1) := by decide +kernel
theorem dX12_metAt_9 : decode cX12_metAt 9 = .ok (.ifCond .ge 5, 3) := by decide +kernel
theorem dX12_metAt_12 : decode cX12_metAt 12 = .ok (.iconst (-1), 1) := by decide +kernel
theorem dX12_metAt_13 : decode cX12_metAt 13 = .ok (.ireturn, 1) := by decide +kernel
theorem dX12_metAt_14 : decode cX12_metAt 14 = .ok (.aload_n 0, 1) := by decide +kernel
theorem dX12_metAt_15 : decode cX12_metAt 15 = .ok (.getfield 62, 3) := by decide +kernel
theorem dX12_metAt_18 : decode cX12_metAt 18 = .ok (.aload_n 0, 1) := by decide +kernel
theorem dX12_metAt_19 : decode cX12_metAt 19 = .ok (.getfield 53, 3) := by decide +kernel
theorem dX12_metAt_22 : decode cX12_metAt 22 = .ok (.iload_n 1, 1) := by decide +kernel
theorem dX12_metAt_23 : decode cX12_metAt 23 = .ok (.invokevirtual 226, 3) := by decide +kernel
theorem dX12_metAt_26 : decode cX12_metAt 26 = .ok (.iload_n 2, 1) := by decide +kernel
theorem dX12_metAt_27 : decode cX12_metAt 27 = .ok (.aload_n 0, 1) := by decide +kernel
theorem dX12_metAt_28 : decode cX12_metAt 28 = .ok (.getfield 62, 3) := by decide +kernel
theorem dX12_metAt_31 : decode cX12_metAt 31 = .ok (.getfield 236, 3) := by decide +kernel
theorem dX12_metAt_34 : decode cX12_metAt 34 = .ok (.if_icmp .ge 15, 3) := by decide +kernel
theorem dX12_metAt_37 : decode cX12_metAt 37 = .ok (.aload_n 0, 1) := by decide +kernel
theorem dX12_metAt_38 : decode cX12_metAt 38 = .ok (.getfield 62, 3) := by decide +kernel
theorem dX12_metAt_41 : decode cX12_metAt 41 = .ok (.getfield 239, 3) := by decide +kernel
theorem dX12_metAt_44 : decode cX12_metAt 44 = .ok (.iload_n 2, 1) := by decide +kernel
theorem dX12_metAt_45 : decode cX12_metAt 45 = .ok (.iaload, 1) := by decide +kernel
theorem dX12_metAt_46 : decode cX12_metAt 46 = .ok (.goto 4, 3) := by decide +kernel
theorem dX12_metAt_49 : decode cX12_metAt 49 = .ok (.iconst (-1), 1) := by decide +kernel
theorem dX12_metAt_50 : decode cX12_metAt 50 = .ok (.ireturn, 1) := by decide +kernel
theorem dX17_metAt_0 : decode cX17_metAt 0 = .ok (.aload_n 0, 1) := by decide +kernel
theorem dX17_metAt_1 : decode cX17_metAt 1 = .ok (.iconst 0, 1) := by decide +kernel
theorem dX17_metAt_2 : decode cX17_metAt 2 = .ok (.putfield 60, 3) := by decide +kernel
theorem dX17_metAt_5 : decode cX17_metAt 5 = .ok (.aload_n 0, 1) := by decide +kernel
theorem dX17_metAt_6 : decode cX17_metAt 6 = .ok (.iload_n 1, 1) := by decide +kernel
theorem dX17_metAt_7 : decode cX17_metAt 7 = .ok (.iconst 0, 1) := by decide +kernel
theorem dX17_metAt_8 : decode cX17_metAt 8 = .ok (.invokevirtual 293, 3) := by decide +kernel
theorem dX17_metAt_11 : decode cX17_metAt 11 = .ok (.ifCond .ne 5, 3) := by decide +kernel
theorem dX17_metAt_14 : decode cX17_metAt 14 = .ok (.iconst (-1), 1) := by decide +kernel
theorem dX17_metAt_15 : decode cX17_metAt 15 = .ok (.ireturn, 1) := by decide +kernel
theorem dX17_metAt_16 : decode cX17_metAt 16 = .ok (.aload_n 0, 1) := by decide +kernel
theorem dX17_metAt_17 : decode cX17_metAt 17 = .ok (.iload_n 1, 1) := by decide +kernel
theorem dX17_metAt_18 : decode cX17_metAt 18 = .ok (.invokevirtual 296, 3) := by decide +kernel
theorem dX17_metAt_21 : decode cX17_metAt 21 = .ok (.iload_n 2, 1) := by decide +kernel
theorem dX17_metAt_22 : decode cX17_metAt 22 = .ok (.ifCond .lt 20, 3) := by decide +kernel
theorem dX17_metAt_25 : decode cX17_metAt 25 = .ok (.iload_n 2, 1) := by decide +kernel
theorem dX17_metAt_26 : decode cX17_metAt 26 = .ok (.aload_n 0, 1) := by decide +kernel
theorem dX17_metAt_27 : decode cX17_metAt 27 = .ok (.getfield 279, 3) := by decide +kernel
theorem dX17_metAt_30 : decode cX17_metAt 30 = .ok (.if_icmp .ge 12, 3) := by decide +kernel
theorem dX17_metAt_33 : decode cX17_metAt 33 = .ok (.aload_n 0, 1) := by decide +kernel
theorem dX17_metAt_34 : decode cX17_metAt 34 = .ok (.getfield 48, 3) := by decide +kernel
theorem dX17_metAt_37 : decode cX17_metAt 37 = .ok (.iload_n 2, 1) := by decide +kernel
theorem dX17_metAt_38 : decode cX17_metAt 38 = .ok (.iaload, 1) := by decide +kernel
theorem dX17_metAt_39 : decode cX17_metAt 39 = .ok (.goto 4, 3) := by decide +kernel
theorem dX17_metAt_42 : decode cX17_metAt 42 = .ok (.iconst (-1), 1) := by decide +kernel
theorem dX17_metAt_43 : decode cX17_metAt 43 = .ok (.ireturn, 1) := by decide +kernel
theorem dX12_frameOf_0 : decode cX12_frameOf 0 = .ok (.aload_n 0, 1) := by decide +kernel
theorem dX12_frameOf_1 : decode cX12_frameOf 1 = .ok (.invokevirtual 135, 3) := by decide +kernel
theorem dX12_frameOf_4 : decode cX12_frameOf 4 = .ok (.ifCond .ne 5, 3) := by decide +kernel
theorem dX12_frameOf_7 : decode cX12_frameOf 7 = .ok (.lconst 0, 1) := by decide +kernel
theorem dX12_frameOf_8 : decode cX12_frameOf 8 = .ok (.lreturn, 1) := by decide +kernel
theorem dX12_frameOf_9 : decode cX12_frameOf 9 = .ok (.lconst 1, 1) := by decide +kernel
theorem dX12_frameOf_10 : decode cX12_frameOf 10 = .ok (.lstore_n 1, 1) := by decide +kernel
theorem dX12_frameOf_11 : decode cX12_frameOf 11 = .ok (.iconst 0, 1) := by decide +kernel
theorem dX12_frameOf_12 : decode cX12_frameOf 12 = .ok (.istore_n 3, 1) := by decide +kernel
theorem dX12_frameOf_13 : decode cX12_frameOf 13 = .ok (.iload_n 3, 1) := by decide +kernel
theorem dX12_frameOf_14 : decode cX12_frameOf 14 = .ok (.bipush 64, 2) := by decide +kernel
theorem dX12_frameOf_16 : decode cX12_frameOf 16 = .ok (.if_icmp .ge 15, 3) := by decide +kernel
theorem dX12_frameOf_19 : decode cX12_frameOf 19 = .ok (.lload_n 1, 1) := by decide +kernel
theorem dX12_frameOf_20 : decode cX12_frameOf 20 = .ok (.ldc2_w 242, 3) := by decide +kernel
theorem dX12_frameOf_23 : decode cX12_frameOf 23 = .ok (.lmul, 1) := by decide +kernel
theorem dX12_frameOf_24 : decode cX12_frameOf 24 = .ok (.lstore_n 1, 1) := by decide +kernel
theorem dX12_frameOf_25 : decode cX12_frameOf 25 = .ok (.iinc 3 1, 3) := by decide +kernel
theorem dX12_frameOf_28 : decode cX12_frameOf 28 = .ok (.goto (-15), 3) := by decide +kernel
theorem dX12_frameOf_31 : decode cX12_frameOf 31 = .ok (.lconst 0, 1) := by decide +kernel
theorem dX12_frameOf_32 : decode cX12_frameOf 32 = .ok (.lstore_n 3, 1) := by decide +kernel
theorem dX12_frameOf_33 : decode cX12_frameOf 33 = .ok (.iconst 0, 1) := by decide +kernel
theorem dX12_frameOf_34 : decode cX12_frameOf 34 = .ok (.istore 5, 2) := by decide +kernel
theorem dX12_frameOf_36 : decode cX12_frameOf 36 = .ok (.iload 5, 2) := by decide +kernel
theorem dX12_frameOf_38 : decode cX12_frameOf 38 = .ok (.bipush 64, 2) := by decide +kernel
theorem dX12_frameOf_40 : decode cX12_frameOf 40 = .ok (.if_icmp .ge 68, 3) := by decide +kernel
theorem dX12_frameOf_43 : decode cX12_frameOf 43 = .ok (.aload_n 0, 1) := by decide +kernel
theorem dX12_frameOf_44 : decode cX12_frameOf 44 = .ok (.getfield 62, 3) := by decide +kernel
theorem dX12_frameOf_47 : decode cX12_frameOf 47 = .ok (.aload_n 0, 1) := by decide +kernel
theorem dX12_frameOf_48 : decode cX12_frameOf 48 = .ok (.getfield 53, 3) := by decide +kernel
theorem dX12_frameOf_51 : decode cX12_frameOf 51 = .ok (.iload 5, 2) := by decide +kernel
theorem dX12_frameOf_53 : decode cX12_frameOf 53 = .ok (.invokevirtual 226, 3) := by decide +kernel
theorem dX12_frameOf_56 : decode cX12_frameOf 56 = .ok (.lconst 0, 1) := by decide +kernel
theorem dX12_frameOf_57 : decode cX12_frameOf 57 = .ok (.lstore 6, 2) := by decide +kernel
theorem dX12_frameOf_59 : decode cX12_frameOf 59 = .ok (.iconst 0, 1) := by decide +kernel
theorem dX12_frameOf_60 : decode cX12_frameOf 60 = .ok (.istore 8, 2) := by decide +kernel
theorem dX12_frameOf_62 : decode cX12_frameOf 62 = .ok (.iload 8, 2) := by decide +kernel
theorem dX12_frameOf_64 : decode cX12_frameOf 64 = .ok (.bipush 48, 2) := by decide +kernel
theorem dX12_frameOf_66 : decode cX12_frameOf 66 = .ok (.if_icmp .ge 27, 3) := by decide +kernel
theorem dX12_frameOf_69 : decode cX12_frameOf 69 = .ok (.lload_n 1, 1) := by decide +kernel
theorem dX12_frameOf_70 : decode cX12_frameOf 70 = .ok (.lload 6, 2) := by decide +kernel
theorem dX12_frameOf_72 : decode cX12_frameOf 72 = .ok (.lmul, 1) := by decide +kernel
theorem dX12_frameOf_73 : decode cX12_frameOf 73 = .ok (.aload_n 0, 1) := by decide +kernel
theorem dX12_frameOf_74 : decode cX12_frameOf 74 = .ok (.getfield 62, 3) := by decide +kernel
theorem dX12_frameOf_77 : decode cX12_frameOf 77 = .ok (.getfield 230, 3) := by decide +kernel
theorem dX12_frameOf_80 : decode cX12_frameOf 80 = .ok (.iload 8, 2) := by decide +kernel
theorem dX12_frameOf_82 : decode cX12_frameOf 82 = .ok (.iaload, 1) := by decide +kernel
theorem dX12_frameOf_83 : decode cX12_frameOf 83 = .ok (.i2l, 1) := by decide +kernel
theorem dX12_frameOf_84 : decode cX12_frameOf 84 = .ok (.ladd, 1) := by decide +kernel
theorem dX12_frameOf_85 : decode cX12_frameOf 85 = .ok (.lstore 6, 2) := by decide +kernel
theorem dX12_frameOf_87 : decode cX12_frameOf 87 = .ok (.iinc 8 1, 3) := by decide +kernel
theorem dX12_frameOf_90 : decode cX12_frameOf 90 = .ok (.goto (-28), 3) := by decide +kernel
theorem dX12_frameOf_93 : decode cX12_frameOf 93 = .ok (.ldc2_w 242, 3) := by decide +kernel
theorem dX12_frameOf_96 : decode cX12_frameOf 96 = .ok (.lload_n 3, 1) := by decide +kernel
theorem dX12_frameOf_97 : decode cX12_frameOf 97 = .ok (.lmul, 1) := by decide +kernel
theorem dX12_frameOf_98 : decode cX12_frameOf 98 = .ok (.lload 6, 2) := by decide +kernel
theorem dX12_frameOf_100 : decode cX12_frameOf 100 = .ok (.ladd, 1) := by decide +kernel
theorem dX12_frameOf_101 : decode cX12_frameOf 101 = .ok (.lstore_n 3, 1) := by decide +kernel
theorem dX12_frameOf_102 : decode cX12_frameOf 102 = .ok (.iinc 5 1, 3) := by decide +kernel
theorem dX12_frameOf_105 : decode cX12_frameOf 105 = .ok (.goto (-69), 3) := by decide +kernel
theorem dX12_frameOf_108 : decode cX12_frameOf 108 = .ok (.lload_n 3, 1) := by decide +kernel
theorem dX12_frameOf_109 : decode cX12_frameOf 109 = .ok (.lreturn, 1) := by decide +kernel
def rm_X12_pixelAt : Room := { frames := 6, cells := 0, slots := 0, locals := 163 }
theorem fl_X12_pixelAt_62 {s : State} {meth : Method} {args : Array Value} {G : sv_G} {B : Nat} (hts : ∀ w ∈ sv_tb, w.before args s = true) (hC : sv_Cx G B s s.heap) (hni : meth.name = "pixelAt") : sv_FL s meth args vwCl RX12 62 12 5 (.object "SectorView$View") false :=
  ⟨_, RX12, TX12, 11, sv_tb, tyX12, rfl, by decide, hts, uw_X12, Or.inl (hts _ wd_690), fun _ h => h, tyX12_ok 5 (by decide), tyX12_ok, nmX12, fun h => by cases h⟩
theorem fl_X12_pixelAt_53 {s : State} {meth : Method} {args : Array Value} {G : sv_G} {B : Nat} (hts : ∀ w ∈ sv_tb, w.before args s = true) (hC : sv_Cx G B s s.heap) (hni : meth.name = "pixelAt") : sv_FL s meth args vwCl RX12 53 12 4 (.object "SectorView$Walk") false :=
  ⟨_, RX12, TX12, 11, sv_tb, tyX12, rfl, by decide, hts, uw_X12, Or.inl (hts _ wd_689), fun _ h => h, tyX12_ok 4 (by decide), tyX12_ok, nmX12, fun h => by cases h⟩
theorem fl_X12_pixelAt_230 {s : State} {meth : Method} {args : Array Value} {G : sv_G} {B : Nat} (hts : ∀ w ∈ sv_tb, w.before args s = true) (hC : sv_Cx G B s s.heap) (hni : meth.name = "pixelAt") : sv_FL s meth args vwCl RX12 230 9 2 (.array .int) false :=
  ⟨_, RX9, TX9, 8, sv_tb, tyX9, rfl, by decide, hts, uw_X9, Or.inl (hts _ wd_639), fun _ h => h, tyX9_ok 2 (by decide), tyX9_ok, nmX9, fun h => by cases h⟩
set_option maxHeartbeats 4000000 in
set_option maxRecDepth 100000 in
theorem lk_X12_pixelAt_18 {p : Program} {l : Launch} {e : Env} {s : State} {m : MethodId} {args : Array Value} {below : List Frame} {meth : Method} {c : Code} {G : sv_G} {B : Nat} (K : sv_W p s m args meth c cX12_pixelAt RX12 3 (some .int) G B "pixelAt") {r : Int32} {hE : sv_H} {h : sv_H} (hw : fn_X12_pixelAt_18 h = some (r, hE)) {H : Heap} {locs : List Loc} {ls : Array Slot} (hR : sv_R G vwCl sv_ft B h H) (hS : va_S (fun q => B ≤ q) s.heap H locs) (hl : lv_has ls 3 []) : W p l e rm_X12_pixelAt s m args below meth c H locs 0 0 (sv_Z below s args G B (some (.int r)) hE) (F0 m 18 ls []) := by
  obtain ⟨hx, hb, hml, hown, hts, hC, hlk, hr, hBs, hni⟩ := id K
  unfold fn_X12_pixelAt_18 at hw
  refine lv_iconst (v := (-1)) hx hb dX12_pixelAt_18 (by decide) ?_
  obtain ⟨rfl, rfl⟩ := sv_ret hw
  exact W.iret hx hb hr (fun t ht hW => ⟨⟨rfl, by rw [ht]; exact hR⟩, hS.F ht⟩) hS.2.2 dX12_pixelAt_19
set_option maxHeartbeats 4000000 in
set_option maxRecDepth 100000 in
theorem lk_X12_pixelAt_0 {p : Program} {l : Launch} {e : Env} {s : State} {m : MethodId} {args : Array Value} {below : List Frame} {meth : Method} {c : Code} {G : sv_G} {B : Nat} (K : sv_W p s m args meth c cX12_pixelAt RX12 3 (some .int) G B "pixelAt") {r : Int32} {hE : sv_H} {x0 : Nat} {x1 : Int32} {x2 : Int32} {h : sv_H} (hw : fn_X12_pixelAt x0 x1 x2 h = some (r, hE)) {H : Heap} {locs : List Loc} {ls : Array Slot} (hR : sv_R G vwCl sv_ft B h H) (hS : va_S (fun q => B ≤ q) s.heap H locs) (hl : lv_has ls 3 [(0, .ref x0), (1, .int x1), (2, .int x2)]) : W p l e rm_X12_pixelAt s m args below meth c H locs 0 0 (sv_Z below s args G B (some (.int r)) hE) (F0 m 0 ls []) := by
  obtain ⟨hx, hb, hml, hown, hts, hC, hlk, hr, hBs, hni⟩ := id K
  unfold fn_X12_pixelAt at hw
  have hw := (sv_go hw).2
  refine lv_aload_n hx hb dX12_pixelAt_0 rfl (lv_at hl 0 rfl) ?_
  refine lv_iload_n hx hb dX12_pixelAt_1 rfl (lv_at hl 1 rfl) ?_
  obtain ⟨r1, h2, hv1, hw⟩ := sv_b_some hw
  refine sv_call (va_runV (As := [.int x1]) (rest := []) ⟨hx, hb, hml, hown, hts⟩ (mt_X12_isSeen l G B hv1) (cwV 1 hts (sv_gV wd_1278 wd_1280 wd_45 wd_131 wd_1281) rfl rfl rfl (by decide +kernel) ⟨Nat.le_of_ble_eq_true rfl, Nat.le_of_ble_eq_true rfl⟩) ⟨sv_blind, sv_recv hC.1 hR (ci := 12) (sv_go hv1).1 (by decide) rfl, fun U hU hW => sv_pre hC hR hS hBs hU hW⟩ rfl rfl hl.1 rfl (lv_room (Nat.le_of_ble_eq_true rfl)) dX12_pixelAt_2 ⟨Nat.zero_le _, Nat.zero_le _⟩) hS (fun H locs hR hS => ?_)
  refine lv_if_eq (tgt := 18) hx hb dX12_pixelAt_5 (by decide) (fun cc => ?_) (fun cc => ?_)
  · have hw := sv_ift cc hw
    exact lk_X12_pixelAt_18 K hw hR hS (lv_sub hl [] rfl)
  · have hw := sv_iff cc hw
    refine lv_iload_n hx hb dX12_pixelAt_8 rfl (lv_at hl 2 rfl) ?_
    refine lv_if_lt (tgt := 18) hx hb dX12_pixelAt_9 (by decide) (fun cc => ?_) (fun cc => ?_)
    · have hw := sv_ift cc hw
      exact lk_X12_pixelAt_18 K hw hR hS (lv_sub hl [] rfl)
    · have hw := sv_iff cc hw
      refine lv_iload_n hx hb dX12_pixelAt_12 rfl (lv_at hl 2 rfl) ?_
      refine lv_bipush (v := 48) hx hb dX12_pixelAt_13 (by decide) ?_
      refine lv_icmp_lt (tgt := 20) hx hb dX12_pixelAt_15 (by decide) (fun cc => ?_) (fun cc => ?_)
      · have hw := sv_ift cc hw
        refine lv_aload_n hx hb dX12_pixelAt_20 rfl (lv_at hl 0 rfl) ?_
        obtain ⟨v3, hv, hw⟩ := sv_bd hw
        refine sv_rgP hx hb hown hC.1 hR (fl_X12_pixelAt_62 hts hC hni) rfl (by decide) rfl rfl hv dX12_pixelAt_21 ?_
        refine lv_aload_n hx hb dX12_pixelAt_24 rfl (lv_at hl 0 rfl) ?_
        obtain ⟨v4, hv, hw⟩ := sv_bd hw
        refine sv_rgP hx hb hown hC.1 hR (fl_X12_pixelAt_53 hts hC hni) rfl (by decide) rfl rfl hv dX12_pixelAt_25 ?_
        refine lv_iload_n hx hb dX12_pixelAt_28 rfl (lv_at hl 1 rfl) ?_
        obtain ⟨_, h5, hv2, hw⟩ := sv_b_some hw
        refine sv_call (va_runV (As := [.ref v4, .int x1]) (rest := []) ⟨hx, hb, hml, hown, hts⟩ (mt_X9_look l G B hv2) (cwV 2 hts (sv_gV wd_1282 wd_1283 wd_1284 wd_142 wd_1285) rfl rfl rfl (by decide +kernel) ⟨Nat.le_of_ble_eq_true rfl, Nat.le_of_ble_eq_true rfl⟩) ⟨sv_blind, sv_recv hC.1 hR (ci := 9) (sv_go hv2).1 (by decide) rfl, fun U hU hW => sv_pre hC hR hS hBs hU hW⟩ rfl rfl hl.1 rfl (lv_room (Nat.le_of_ble_eq_true rfl)) dX12_pixelAt_29 ⟨Nat.zero_le _, Nat.zero_le _⟩) hS (fun H locs hR hS => ?_)
        refine lv_aload_n hx hb dX12_pixelAt_32 rfl (lv_at hl 0 rfl) ?_
        obtain ⟨v6, hv, hw⟩ := sv_bd hw
        refine sv_rgP hx hb hown hC.1 hR (fl_X12_pixelAt_62 hts hC hni) rfl (by decide) rfl rfl hv dX12_pixelAt_33 ?_
        obtain ⟨v7, hv, hw⟩ := sv_bd hw
        refine sv_rgP hx hb hown hC.1 hR (fl_X12_pixelAt_230 hts hC hni) rfl (by decide) rfl rfl hv dX12_pixelAt_36 ?_
        refine lv_iload_n hx hb dX12_pixelAt_39 rfl (lv_at hl 2 rfl) ?_
        obtain ⟨v8, hv, hw⟩ := sv_bd hw
        refine sv_rlI hx hb hC.1 rfl hR hv dX12_pixelAt_40 ?_
        obtain ⟨rfl, rfl⟩ := sv_ret hw
        exact W.iret hx hb hr (fun t ht hW => ⟨⟨rfl, by rw [ht]; exact hR⟩, hS.F ht⟩) hS.2.2 dX12_pixelAt_41
      · have hw := sv_iff cc hw
        exact lk_X12_pixelAt_18 K hw hR hS (lv_sub hl [] rfl)
set_option maxHeartbeats 4000000 in
set_option maxRecDepth 100000 in
theorem mt_X12_pixelAt (l : Launch) (G : sv_G) (B : Nat) {x0 : Nat} {x1 : Int32} {x2 : Int32} {h : sv_H} {r : Int32} {hE : sv_H} (hw : fn_X12_pixelAt x0 x1 x2 h = some (r, hE)) : Met l yX12_pixelAt (.code yX12_pixelAt cX12_pixelAt 3 (some .int) :: sv_tb) rm_X12_pixelAt (sv_Pc G B [.ref x0, .int x1, .int x2] h) (sv_Q G B (some (.int r)) hE) 0 0 (fun q => B ≤ q) := by
  refine Met.ofW (cc := cX12_pixelAt) (maxL := 3) (ret := (some .int)) (by decide +kernel) rfl ?_
  intro p e s m args below meth c s₁ Bd hml hv
  obtain ⟨rfl, hR, hC, hB⟩ := hv
  have hl := lv_entry ([.ref x0, .int x1, .int x2]) (n := 3) (Nat.le_of_ble_eq_true rfl)
  rw [lg_entry_eq]
  generalize (lg_sl ([.ref x0, .int x1, .int x2]) ++ List.replicate (3 - (lg_sl ([.ref x0, .int x1, .int x2])).length) Slot.unset).toArray = ls at hl ⊢
  have hl : lv_has ls 3 [(0, .ref x0), (1, .int x1), (2, .int x2)] := hl
  exact lk_X12_pixelAt_0 ⟨Bd.exec, Bd.bytes, hml, findClass_of_methodNamed Bd.named, fun w h => atoms_spec (ws := .code yX12_pixelAt cX12_pixelAt 3 (some .int) :: sv_tb) Bd.pre w (List.mem_cons_of_mem _ h), hC, Bd.notSynchronized, Bd.returns, hB, (name_of_methodNamed Bd.named Bd.method).1⟩ hw hR va_S.rf hl

def rm_X17_isPixel : Room := { frames := 0, cells := 0, slots := 0, locals := 0 }
theorem fl_X17_isPixel_77 {s : State} {meth : Method} {args : Array Value} {G : sv_G} {B : Nat} (hts : ∀ w ∈ sv_tb, w.before args s = true) (hC : sv_Cx G B s s.heap) (hni : meth.name = "isPixel") : sv_FL s meth args vwCl RX17 77 17 9 .boolean true :=
  ⟨_, RX17, TX17, 29, sv_tb, tyX17, rfl, by decide, hts, uw_X17, Or.inl (hts _ wd_1700), fun _ h => h, tyX17_ok 9 (by decide), tyX17_ok, nmX17, fun _ => Or.inl rfl⟩
set_option maxHeartbeats 4000000 in
set_option maxRecDepth 100000 in
theorem lk_X17_isPixel_32 {p : Program} {l : Launch} {e : Env} {s : State} {m : MethodId} {args : Array Value} {below : List Frame} {meth : Method} {c : Code} {G : sv_G} {B : Nat} (K : sv_W p s m args meth c cX17_isPixel RX17 3 (some .boolean) G B "isPixel") {r : Int32} {hE : sv_H} {s0 : Int32} {h : sv_H} (hw : fn_X17_isPixel_32 s0 h = some (r, hE)) {H : Heap} {locs : List Loc} {ls : Array Slot} (hR : sv_R G vwCl sv_ft B h H) (hS : va_S (fun q => B ≤ q) s.heap H locs) (hl : lv_has ls 3 []) : W p l e rm_X17_isPixel s m args below meth c H locs 0 0 (sv_Z below s args G B (some (.int r)) hE) (F0 m 32 ls [.int s0]) := by
  obtain ⟨hx, hb, hml, hown, hts, hC, hlk, hr, hBs, hni⟩ := id K
  unfold fn_X17_isPixel_32 at hw
  obtain ⟨h01, hw⟩ := sv_rz_some hw
  obtain ⟨rfl, rfl⟩ := sv_ret hw
  exact W.zret hx hb hr (sv_nz01 h01) (fun t ht hW => ⟨⟨rfl, by rw [ht]; exact hR⟩, hS.F ht⟩) hS.2.2 dX17_isPixel_32
set_option maxHeartbeats 4000000 in
set_option maxRecDepth 100000 in
theorem lk_X17_isPixel_31 {p : Program} {l : Launch} {e : Env} {s : State} {m : MethodId} {args : Array Value} {below : List Frame} {meth : Method} {c : Code} {G : sv_G} {B : Nat} (K : sv_W p s m args meth c cX17_isPixel RX17 3 (some .boolean) G B "isPixel") {r : Int32} {hE : sv_H} {h : sv_H} (hw : fn_X17_isPixel_31 h = some (r, hE)) {H : Heap} {locs : List Loc} {ls : Array Slot} (hR : sv_R G vwCl sv_ft B h H) (hS : va_S (fun q => B ≤ q) s.heap H locs) (hl : lv_has ls 3 []) : W p l e rm_X17_isPixel s m args below meth c H locs 0 0 (sv_Z below s args G B (some (.int r)) hE) (F0 m 31 ls []) := by
  obtain ⟨hx, hb, hml, hown, hts, hC, hlk, hr, hBs, hni⟩ := id K
  unfold fn_X17_isPixel_31 at hw
  refine lv_iconst (v := 0) hx hb dX17_isPixel_31 (by decide) ?_
  exact lk_X17_isPixel_32 K hw hR hS (lv_sub hl [] rfl)
set_option maxHeartbeats 4000000 in
set_option maxRecDepth 100000 in
theorem lk_X17_isPixel_0 {p : Program} {l : Launch} {e : Env} {s : State} {m : MethodId} {args : Array Value} {below : List Frame} {meth : Method} {c : Code} {G : sv_G} {B : Nat} (K : sv_W p s m args meth c cX17_isPixel RX17 3 (some .boolean) G B "isPixel") {r : Int32} {hE : sv_H} {x0 : Nat} {x1 : Int32} {x2 : Int32} {h : sv_H} (hw : fn_X17_isPixel x0 x1 x2 h = some (r, hE)) {H : Heap} {locs : List Loc} {ls : Array Slot} (hR : sv_R G vwCl sv_ft B h H) (hS : va_S (fun q => B ≤ q) s.heap H locs) (hl : lv_has ls 3 [(0, .ref x0), (1, .int x1), (2, .int x2)]) : W p l e rm_X17_isPixel s m args below meth c H locs 0 0 (sv_Z below s args G B (some (.int r)) hE) (F0 m 0 ls []) := by
  obtain ⟨hx, hb, hml, hown, hts, hC, hlk, hr, hBs, hni⟩ := id K
  unfold fn_X17_isPixel at hw
  have hw := (sv_go hw).2
  refine lv_aload_n hx hb dX17_isPixel_0 rfl (lv_at hl 0 rfl) ?_
  obtain ⟨v1, hv, hw⟩ := sv_bd hw
  refine sv_rgI hx hb hown hC.1 hR (fl_X17_isPixel_77 hts hC hni) rfl (by decide) rfl rfl hv dX17_isPixel_1 ?_
  refine lv_if_eq (tgt := 31) hx hb dX17_isPixel_4 (by decide) (fun cc => ?_) (fun cc => ?_)
  · have hw := sv_ift cc hw
    exact lk_X17_isPixel_31 K hw hR hS (lv_sub hl [] rfl)
  · have hw := sv_iff cc hw
    refine lv_iload_n hx hb dX17_isPixel_7 rfl (lv_at hl 1 rfl) ?_
    refine lv_if_lt (tgt := 31) hx hb dX17_isPixel_8 (by decide) (fun cc => ?_) (fun cc => ?_)
    · have hw := sv_ift cc hw
      exact lk_X17_isPixel_31 K hw hR hS (lv_sub hl [] rfl)
    · have hw := sv_iff cc hw
      refine lv_iload_n hx hb dX17_isPixel_11 rfl (lv_at hl 1 rfl) ?_
      refine lv_bipush (v := 64) hx hb dX17_isPixel_12 (by decide) ?_
      refine lv_icmp_ge (tgt := 31) hx hb dX17_isPixel_14 (by decide) (fun cc => ?_) (fun cc => ?_)
      · have hw := sv_ift cc hw
        exact lk_X17_isPixel_31 K hw hR hS (lv_sub hl [] rfl)
      · have hw := sv_iff cc hw
        refine lv_iload_n hx hb dX17_isPixel_17 rfl (lv_at hl 2 rfl) ?_
        refine lv_if_lt (tgt := 31) hx hb dX17_isPixel_18 (by decide) (fun cc => ?_) (fun cc => ?_)
        · have hw := sv_ift cc hw
          exact lk_X17_isPixel_31 K hw hR hS (lv_sub hl [] rfl)
        · have hw := sv_iff cc hw
          refine lv_iload_n hx hb dX17_isPixel_21 rfl (lv_at hl 2 rfl) ?_
          refine lv_bipush (v := 48) hx hb dX17_isPixel_22 (by decide) ?_
          refine lv_icmp_ge (tgt := 31) hx hb dX17_isPixel_24 (by decide) (fun cc => ?_) (fun cc => ?_)
          · have hw := sv_ift cc hw
            exact lk_X17_isPixel_31 K hw hR hS (lv_sub hl [] rfl)
          · have hw := sv_iff cc hw
            refine lv_iconst (v := 1) hx hb dX17_isPixel_27 (by decide) ?_
            refine lv_goto (tgt := 32) hx hb dX17_isPixel_28 (by decide) ?_
            exact lk_X17_isPixel_32 K hw hR hS (lv_sub hl [] rfl)
set_option maxHeartbeats 4000000 in
set_option maxRecDepth 100000 in
theorem mt_X17_isPixel (l : Launch) (G : sv_G) (B : Nat) {x0 : Nat} {x1 : Int32} {x2 : Int32} {h : sv_H} {r : Int32} {hE : sv_H} (hw : fn_X17_isPixel x0 x1 x2 h = some (r, hE)) : Met l yX17_isPixel (.code yX17_isPixel cX17_isPixel 3 (some .boolean) :: sv_tb) rm_X17_isPixel (sv_Pc G B [.ref x0, .int x1, .int x2] h) (sv_Q G B (some (.int r)) hE) 0 0 (fun q => B ≤ q) := by
  refine Met.ofW (cc := cX17_isPixel) (maxL := 3) (ret := (some .boolean)) (by decide +kernel) rfl ?_
  intro p e s m args below meth c s₁ Bd hml hv
  obtain ⟨rfl, hR, hC, hB⟩ := hv
  have hl := lv_entry ([.ref x0, .int x1, .int x2]) (n := 3) (Nat.le_of_ble_eq_true rfl)
  rw [lg_entry_eq]
  generalize (lg_sl ([.ref x0, .int x1, .int x2]) ++ List.replicate (3 - (lg_sl ([.ref x0, .int x1, .int x2])).length) Slot.unset).toArray = ls at hl ⊢
  have hl : lv_has ls 3 [(0, .ref x0), (1, .int x1), (2, .int x2)] := hl
  exact lk_X17_isPixel_0 ⟨Bd.exec, Bd.bytes, hml, findClass_of_methodNamed Bd.named, fun w h => atoms_spec (ws := .code yX17_isPixel cX17_isPixel 3 (some .boolean) :: sv_tb) Bd.pre w (List.mem_cons_of_mem _ h), hC, Bd.notSynchronized, Bd.returns, hB, (name_of_methodNamed Bd.named Bd.method).1⟩ hw hR va_S.rf hl

def rm_X17_rowOf : Room := { frames := 1, cells := 0, slots := 0, locals := 25 }
theorem fl_X17_rowOf_201 {s : State} {meth : Method} {args : Array Value} {G : sv_G} {B : Nat} (hts : ∀ w ∈ sv_tb, w.before args s = true) (hC : sv_Cx G B s s.heap) (hni : meth.name = "rowOf") : sv_FL s meth args vwCl RX17 201 17 18 .long true :=
  ⟨_, RX17, TX17, 29, sv_tb, tyX17, rfl, by decide, hts, uw_X17, Or.inl (hts _ wd_1709), fun _ h => h, tyX17_ok 18 (by decide), tyX17_ok, nmX17, fun _ => Or.inl rfl⟩
theorem fl_X17_rowOf_198 {s : State} {meth : Method} {args : Array Value} {G : sv_G} {B : Nat} (hts : ∀ w ∈ sv_tb, w.before args s = true) (hC : sv_Cx G B s s.heap) (hni : meth.name = "rowOf") : sv_FL s meth args vwCl RX17 198 17 17 .long true :=
  ⟨_, RX17, TX17, 29, sv_tb, tyX17, rfl, by decide, hts, uw_X17, Or.inl (hts _ wd_1708), fun _ h => h, tyX17_ok 17 (by decide), tyX17_ok, nmX17, fun _ => Or.inl rfl⟩
set_option maxHeartbeats 4000000 in
set_option maxRecDepth 100000 in
theorem lk_X17_rowOf_56 {p : Program} {l : Launch} {e : Env} {s : State} {m : MethodId} {args : Array Value} {below : List Frame} {meth : Method} {c : Code} {G : sv_G} {B : Nat} (K : sv_W p s m args meth c cX17_rowOf RX17 6 (some .int) G B "rowOf") {r : Int32} {hE : sv_H} {s0 : Int32} {h : sv_H} (hw : fn_X17_rowOf_56 s0 h = some (r, hE)) {H : Heap} {locs : List Loc} {ls : Array Slot} (hR : sv_R G vwCl sv_ft B h H) (hS : va_S (fun q => B ≤ q) s.heap H locs) (hl : lv_has ls 6 []) : W p l e rm_X17_rowOf s m args below meth c H locs 0 0 (sv_Z below s args G B (some (.int r)) hE) (F0 m 56 ls [.int s0]) := by
  obtain ⟨hx, hb, hml, hown, hts, hC, hlk, hr, hBs, hni⟩ := id K
  unfold fn_X17_rowOf_56 at hw
  obtain ⟨rfl, rfl⟩ := sv_ret hw
  exact W.iret hx hb hr (fun t ht hW => ⟨⟨rfl, by rw [ht]; exact hR⟩, hS.F ht⟩) hS.2.2 dX17_rowOf_56
set_option maxHeartbeats 4000000 in
set_option maxRecDepth 100000 in
theorem lk_X17_rowOf_0 {p : Program} {l : Launch} {e : Env} {s : State} {m : MethodId} {args : Array Value} {below : List Frame} {meth : Method} {c : Code} {G : sv_G} {B : Nat} (K : sv_W p s m args meth c cX17_rowOf RX17 6 (some .int) G B "rowOf") {r : Int32} {hE : sv_H} {x0 : Nat} {x1 : Int32} {x2 : Int32} {x3 : Int32} {h : sv_H} (hw : fn_X17_rowOf x0 x1 x2 x3 h = some (r, hE)) {H : Heap} {locs : List Loc} {ls : Array Slot} (hR : sv_R G vwCl sv_ft B h H) (hS : va_S (fun q => B ≤ q) s.heap H locs) (hl : lv_has ls 6 [(0, .ref x0), (1, .int x1), (2, .int x2), (3, .int x3)]) : W p l e rm_X17_rowOf s m args below meth c H locs 0 0 (sv_Z below s args G B (some (.int r)) hE) (F0 m 0 ls []) := by
  obtain ⟨hx, hb, hml, hown, hts, hC, hlk, hr, hBs, hni⟩ := id K
  unfold fn_X17_rowOf at hw
  have hw := (sv_go hw).2
  refine lv_ldc2 (v := 24) hx hb hown (hts _ wd_2066) dX17_rowOf_0 ?_
  refine lv_iload_n hx hb dX17_rowOf_3 rfl (lv_at hl 1 rfl) ?_
  refine lv_aload_n hx hb dX17_rowOf_4 rfl (lv_at hl 0 rfl) ?_
  obtain ⟨r1, h2, hv1, hw⟩ := sv_b_some hw
  refine sv_call (va_runV (As := []) (rest := [.int x1, .long 24]) ⟨hx, hb, hml, hown, hts⟩ (mt_X17_eye l G B hv1) (cwV 0 hts (sv_gV wd_2067 wd_2069 wd_96 wd_144 wd_2070) rfl rfl rfl (by decide +kernel) ⟨Nat.le_of_ble_eq_true rfl, Nat.le_of_ble_eq_true rfl⟩) ⟨sv_blind, sv_recv hC.1 hR (ci := 17) (sv_go hv1).1 (by decide) rfl, fun U hU hW => sv_pre hC hR hS hBs hU hW⟩ rfl rfl hl.1 rfl (lv_room (Nat.le_of_ble_eq_true rfl)) dX17_rowOf_5 ⟨Nat.zero_le _, Nat.zero_le _⟩) hS (fun H locs hR hS => ?_)
  refine lv_isub hx hb dX17_rowOf_8 ?_
  refine lv_i2l hx hb dX17_rowOf_9 rfl ?_
  refine lv_aload_n hx hb dX17_rowOf_10 rfl (lv_at hl 0 rfl) ?_
  obtain ⟨v3, hv, hw⟩ := sv_bd hw
  refine sv_rgJ hx hb hown hC.1 hR (fl_X17_rowOf_201 hts hC hni) rfl (by decide) rfl rfl hv dX17_rowOf_11 ?_
  refine lv_lmul hx hb dX17_rowOf_14 ?_
  refine lv_ldc2 (v := 512) hx hb hown (hts _ wd_2071) dX17_rowOf_15 ?_
  refine lv_aload_n hx hb dX17_rowOf_18 rfl (lv_at hl 0 rfl) ?_
  obtain ⟨v4, hv, hw⟩ := sv_bd hw
  refine sv_rgJ hx hb hown hC.1 hR (fl_X17_rowOf_198 hts hC hni) rfl (by decide) rfl rfl hv dX17_rowOf_19 ?_
  refine lv_lmul hx hb dX17_rowOf_22 ?_
  obtain ⟨r5, h6, hv2, hw⟩ := sv_b_some hw
  refine sv_call (va_runS (As := [.long ((Int32.toInt64 (x1 - r1)) * v3), .long (512 * v4)]) (rest := [.long 24]) ⟨hx, hb, hml, hown, hts⟩ (mt_X17_down l G B hv2) (va_cwS 2 hts (sv_gS wd_2072 wd_2073 wd_144 wd_2074) rfl rfl rfl (by decide +kernel) ⟨Nat.le_of_ble_eq_true rfl, Nat.le_of_ble_eq_true rfl⟩) ⟨sv_blind, fun U hU hW => sv_pre hC hR hS hBs hU hW⟩ rfl rfl hl.1 rfl (lv_room (Nat.le_of_ble_eq_true rfl)) dX17_rowOf_23 ⟨Nat.zero_le _, Nat.zero_le _⟩) hS (fun H locs hR hS => ?_)
  refine lv_lsub hx hb dX17_rowOf_26 ?_
  refine lv_lstore (lv' := [(4, .long (24 - r5)), (0, .ref x0), (1, .int x1), (2, .int x2), (3, .int x3)]) hx hb dX17_rowOf_27 hl (by decide) rfl (fun ls hl => ?_)
  refine lv_lload hx hb dX17_rowOf_29 (lv_at hl 0 rfl) ?_
  refine lv_iload_n hx hb dX17_rowOf_31 rfl (lv_at hl 3 rfl) ?_
  refine lv_i2l hx hb dX17_rowOf_32 rfl ?_
  refine W.lcmp hx hb dX17_rowOf_33 ?_
  refine lv_if_ge (tgt := 41) hx hb dX17_rowOf_34 (by decide) (fun cc => ?_) (fun cc => ?_)
  · have hw := sv_ift cc hw
    refine lv_lload hx hb dX17_rowOf_41 (lv_at hl 0 rfl) ?_
    refine lv_iload_n hx hb dX17_rowOf_43 rfl (lv_at hl 4 rfl) ?_
    refine lv_i2l hx hb dX17_rowOf_44 rfl ?_
    refine W.lcmp hx hb dX17_rowOf_45 ?_
    refine lv_if_le (tgt := 53) hx hb dX17_rowOf_46 (by decide) (fun cc => ?_) (fun cc => ?_)
    · have hw := sv_ift cc hw
      refine lv_lload hx hb dX17_rowOf_53 (lv_at hl 0 rfl) ?_
      refine lv_l2i hx hb dX17_rowOf_55 rfl ?_
      exact lk_X17_rowOf_56 K hw hR hS (lv_sub hl [] rfl)
    · have hw := sv_iff cc hw
      refine lv_iload_n hx hb dX17_rowOf_49 rfl (lv_at hl 4 rfl) ?_
      refine lv_goto (tgt := 56) hx hb dX17_rowOf_50 (by decide) ?_
      exact lk_X17_rowOf_56 K hw hR hS (lv_sub hl [] rfl)
  · have hw := sv_iff cc hw
    refine lv_iload_n hx hb dX17_rowOf_37 rfl (lv_at hl 3 rfl) ?_
    refine lv_goto (tgt := 56) hx hb dX17_rowOf_38 (by decide) ?_
    exact lk_X17_rowOf_56 K hw hR hS (lv_sub hl [] rfl)
set_option maxHeartbeats 4000000 in
set_option maxRecDepth 100000 in
theorem mt_X17_rowOf (l : Launch) (G : sv_G) (B : Nat) {x0 : Nat} {x1 : Int32} {x2 : Int32} {x3 : Int32} {h : sv_H} {r : Int32} {hE : sv_H} (hw : fn_X17_rowOf x0 x1 x2 x3 h = some (r, hE)) : Met l yX17_rowOf (.code yX17_rowOf cX17_rowOf 6 (some .int) :: sv_tb) rm_X17_rowOf (sv_Pc G B [.ref x0, .int x1, .int x2, .int x3] h) (sv_Q G B (some (.int r)) hE) 0 0 (fun q => B ≤ q) := by
  refine Met.ofW (cc := cX17_rowOf) (maxL := 6) (ret := (some .int)) (by decide +kernel) rfl ?_
  intro p e s m args below meth c s₁ Bd hml hv
  obtain ⟨rfl, hR, hC, hB⟩ := hv
  have hl := lv_entry ([.ref x0, .int x1, .int x2, .int x3]) (n := 6) (Nat.le_of_ble_eq_true rfl)
  rw [lg_entry_eq]
  generalize (lg_sl ([.ref x0, .int x1, .int x2, .int x3]) ++ List.replicate (6 - (lg_sl ([.ref x0, .int x1, .int x2, .int x3])).length) Slot.unset).toArray = ls at hl ⊢
  have hl : lv_has ls 6 [(0, .ref x0), (1, .int x1), (2, .int x2), (3, .int x3)] := hl
  exact lk_X17_rowOf_0 ⟨Bd.exec, Bd.bytes, hml, findClass_of_methodNamed Bd.named, fun w h => atoms_spec (ws := .code yX17_rowOf cX17_rowOf 6 (some .int) :: sv_tb) Bd.pre w (List.mem_cons_of_mem _ h), hC, Bd.notSynchronized, Bd.returns, hB, (name_of_methodNamed Bd.named Bd.method).1⟩ hw hR va_S.rf hl

def rm_X14_texture : Room := { frames := 2, cells := 0, slots := 0, locals := 44 }
theorem fl_X14_texture_15 {s : State} {meth : Method} {args : Array Value} {G : sv_G} {B : Nat} (hts : ∀ w ∈ sv_tb, w.before args s = true) (hC : sv_Cx G B s s.heap) (hni : meth.name = "texture") : sv_FL s meth args vwCl RX14 15 14 2 (.array .byte) false :=
  ⟨_, RX14, TX14, 10, sv_tb, tyX14, rfl, by decide, hts, uw_X14, Or.inl (hts _ wd_1412), fun _ h => h, tyX14_ok 2 (by decide), tyX14_ok, nmX14, fun h => by cases h⟩
set_option maxHeartbeats 4000000 in
set_option maxRecDepth 100000 in
theorem lk_X14_texture_13 {p : Program} {l : Launch} {e : Env} {s : State} {m : MethodId} {args : Array Value} {below : List Frame} {meth : Method} {c : Code} {G : sv_G} {B : Nat} (K : sv_W p s m args meth c cX14_texture RX14 8 (some .int) G B "texture") {r : Int32} {hE : sv_H} {h : sv_H} (hw : fn_X14_texture_13 h = some (r, hE)) {H : Heap} {locs : List Loc} {ls : Array Slot} (hR : sv_R G vwCl sv_ft B h H) (hS : va_S (fun q => B ≤ q) s.heap H locs) (hl : lv_has ls 8 []) : W p l e rm_X14_texture s m args below meth c H locs 0 0 (sv_Z below s args G B (some (.int r)) hE) (F0 m 13 ls []) := by
  obtain ⟨hx, hb, hml, hown, hts, hC, hlk, hr, hBs, hni⟩ := id K
  unfold fn_X14_texture_13 at hw
  refine lv_iconst (v := (-1)) hx hb dX14_texture_13 (by decide) ?_
  obtain ⟨rfl, rfl⟩ := sv_ret hw
  exact W.iret hx hb hr (fun t ht hW => ⟨⟨rfl, by rw [ht]; exact hR⟩, hS.F ht⟩) hS.2.2 dX14_texture_14
set_option maxHeartbeats 4000000 in
set_option maxRecDepth 100000 in
theorem lk_X14_texture_111 {p : Program} {l : Launch} {e : Env} {s : State} {m : MethodId} {args : Array Value} {below : List Frame} {meth : Method} {c : Code} {G : sv_G} {B : Nat} (K : sv_W p s m args meth c cX14_texture RX14 8 (some .int) G B "texture") {r : Int32} {hE : sv_H} {s0 : Int32} {h : sv_H} (hw : fn_X14_texture_111 s0 h = some (r, hE)) {H : Heap} {locs : List Loc} {ls : Array Slot} (hR : sv_R G vwCl sv_ft B h H) (hS : va_S (fun q => B ≤ q) s.heap H locs) (hl : lv_has ls 8 []) : W p l e rm_X14_texture s m args below meth c H locs 0 0 (sv_Z below s args G B (some (.int r)) hE) (F0 m 111 ls [.int s0]) := by
  obtain ⟨hx, hb, hml, hown, hts, hC, hlk, hr, hBs, hni⟩ := id K
  unfold fn_X14_texture_111 at hw
  obtain ⟨rfl, rfl⟩ := sv_ret hw
  exact W.iret hx hb hr (fun t ht hW => ⟨⟨rfl, by rw [ht]; exact hR⟩, hS.F ht⟩) hS.2.2 dX14_texture_111
set_option maxHeartbeats 4000000 in
set_option maxRecDepth 100000 in
theorem lk_X14_texture_110 {p : Program} {l : Launch} {e : Env} {s : State} {m : MethodId} {args : Array Value} {below : List Frame} {meth : Method} {c : Code} {G : sv_G} {B : Nat} (K : sv_W p s m args meth c cX14_texture RX14 8 (some .int) G B "texture") {r : Int32} {hE : sv_H} {h : sv_H} (hw : fn_X14_texture_110 h = some (r, hE)) {H : Heap} {locs : List Loc} {ls : Array Slot} (hR : sv_R G vwCl sv_ft B h H) (hS : va_S (fun q => B ≤ q) s.heap H locs) (hl : lv_has ls 8 []) : W p l e rm_X14_texture s m args below meth c H locs 0 0 (sv_Z below s args G B (some (.int r)) hE) (F0 m 110 ls []) := by
  obtain ⟨hx, hb, hml, hown, hts, hC, hlk, hr, hBs, hni⟩ := id K
  unfold fn_X14_texture_110 at hw
  refine lv_iconst (v := (-1)) hx hb dX14_texture_110 (by decide) ?_
  exact lk_X14_texture_111 K hw hR hS (lv_sub hl [] rfl)
set_option maxHeartbeats 4000000 in
set_option maxRecDepth 100000 in
theorem lk_X14_texture_59 {p : Program} {l : Launch} {e : Env} {s : State} {m : MethodId} {args : Array Value} {below : List Frame} {meth : Method} {c : Code} {G : sv_G} {B : Nat} (K : sv_W p s m args meth c cX14_texture RX14 8 (some .int) G B "texture") {r : Int32} {hE : sv_H} {s0 : Int32} {h : sv_H} (hw : fn_X14_texture_59 s0 h = some (r, hE)) {H : Heap} {locs : List Loc} {ls : Array Slot} (hR : sv_R G vwCl sv_ft B h H) (hS : va_S (fun q => B ≤ q) s.heap H locs) (hl : lv_has ls 8 []) : W p l e rm_X14_texture s m args below meth c H locs 0 0 (sv_Z below s args G B (some (.int r)) hE) (F0 m 59 ls [.int s0]) := by
  obtain ⟨hx, hb, hml, hown, hts, hC, hlk, hr, hBs, hni⟩ := id K
  unfold fn_X14_texture_59 at hw
  obtain ⟨rfl, rfl⟩ := sv_ret hw
  exact W.iret hx hb hr (fun t ht hW => ⟨⟨rfl, by rw [ht]; exact hR⟩, hS.F ht⟩) hS.2.2 dX14_texture_59
set_option maxHeartbeats 4000000 in
set_option maxRecDepth 100000 in
theorem lk_X14_texture_0 {p : Program} {l : Launch} {e : Env} {s : State} {m : MethodId} {args : Array Value} {below : List Frame} {meth : Method} {c : Code} {G : sv_G} {B : Nat} (K : sv_W p s m args meth c cX14_texture RX14 8 (some .int) G B "texture") {r : Int32} {hE : sv_H} {x0 : Nat} {x1 : Int32} {x2 : Int32} {h : sv_H} (hw : fn_X14_texture x0 x1 x2 h = some (r, hE)) {H : Heap} {locs : List Loc} {ls : Array Slot} (hR : sv_R G vwCl sv_ft B h H) (hS : va_S (fun q => B ≤ q) s.heap H locs) (hl : lv_has ls 8 [(0, .ref x0), (1, .int x1), (2, .int x2)]) : W p l e rm_X14_texture s m args below meth c H locs 0 0 (sv_Z below s args G B (some (.int r)) hE) (F0 m 0 ls []) := by
  obtain ⟨hx, hb, hml, hown, hts, hC, hlk, hr, hBs, hni⟩ := id K
  unfold fn_X14_texture at hw
  have hw := (sv_go hw).2
  refine lv_aload_n hx hb dX14_texture_0 rfl (lv_at hl 0 rfl) ?_
  refine lv_iconst (v := 4) hx hb dX14_texture_1 (by decide) ?_
  refine lv_iload_n hx hb dX14_texture_2 rfl (lv_at hl 1 rfl) ?_
  obtain ⟨r1, h2, hv1, hw⟩ := sv_b_some hw
  refine sv_call (va_runV (As := [.int 4, .int x1]) (rest := []) ⟨hx, hb, hml, hown, hts⟩ (mt_X14_has l G B hv1) (cwV 2 hts (sv_gV wd_1890 wd_1892 wd_72 wd_145 wd_1893) rfl rfl rfl (by decide +kernel) ⟨Nat.le_of_ble_eq_true rfl, Nat.le_of_ble_eq_true rfl⟩) ⟨sv_blind, sv_recv hC.1 hR (ci := 14) (sv_go hv1).1 (by decide) rfl, fun U hU hW => sv_pre hC hR hS hBs hU hW⟩ rfl rfl hl.1 rfl (lv_room (Nat.le_of_ble_eq_true rfl)) dX14_texture_3 ⟨Nat.zero_le _, Nat.zero_le _⟩) hS (fun H locs hR hS => ?_)
  refine lv_if_eq (tgt := 13) hx hb dX14_texture_6 (by decide) (fun cc => ?_) (fun cc => ?_)
  · have hw := sv_ift cc hw
    exact lk_X14_texture_13 K hw hR hS (lv_sub hl [] rfl)
  · have hw := sv_iff cc hw
    refine lv_iload_n hx hb dX14_texture_9 rfl (lv_at hl 2 rfl) ?_
    refine lv_if_ge (tgt := 15) hx hb dX14_texture_10 (by decide) (fun cc => ?_) (fun cc => ?_)
    · have hw := sv_ift cc hw
      refine lv_aload_n hx hb dX14_texture_15 rfl (lv_at hl 0 rfl) ?_
      refine lv_iload_n hx hb dX14_texture_16 rfl (lv_at hl 1 rfl) ?_
      obtain ⟨r3, h4, hv2, hw⟩ := sv_b_some hw
      refine sv_call (va_runV (As := [.int x1]) (rest := []) ⟨hx, hb, hml, hown, hts⟩ (mt_X14_textureAt l G B hv2) (cwV 1 hts (sv_gV wd_1900 wd_1902 wd_74 wd_145 wd_1903) rfl rfl rfl (by decide +kernel) ⟨Nat.le_of_ble_eq_true rfl, Nat.le_of_ble_eq_true rfl⟩) ⟨sv_blind, sv_recv hC.1 hR (ci := 14) (sv_go hv2).1 (by decide) rfl, fun U hU hW => sv_pre hC hR hS hBs hU hW⟩ rfl rfl hl.1 rfl (lv_room (Nat.le_of_ble_eq_true rfl)) dX14_texture_17 ⟨Nat.zero_le _, Nat.zero_le _⟩) hS (fun H locs hR hS => ?_)
      refine lv_istore_n (lv' := [(3, .int r3), (0, .ref x0), (1, .int x1), (2, .int x2)]) hx hb dX14_texture_20 rfl hl (by decide) rfl (fun ls hl => ?_)
      refine lv_iconst (v := 1) hx hb dX14_texture_21 (by decide) ?_
      refine lv_aload_n hx hb dX14_texture_22 rfl (lv_at hl 1 rfl) ?_
      obtain ⟨v5, hv, hw⟩ := sv_bd hw
      refine sv_rgP hx hb hown hC.1 hR (fl_X14_texture_15 hts hC hni) rfl (by decide) rfl rfl hv dX14_texture_23 ?_
      refine lv_iload_n hx hb dX14_texture_26 rfl (lv_at hl 0 rfl) ?_
      obtain ⟨v6, hv, hw⟩ := sv_bd hw
      refine sv_rlB hx hb hC.1 rfl hR hv dX14_texture_27 ?_
      refine lv_ishl hx hb dX14_texture_28 ?_
      refine lv_istore (lv' := [(4, .int ((1 : Int32) <<< (v6 &&& 31))), (3, .int r3), (0, .ref x0), (1, .int x1), (2, .int x2)]) hx hb dX14_texture_29 hl (by decide) rfl (fun ls hl => ?_)
      refine lv_iconst (v := 1) hx hb dX14_texture_31 (by decide) ?_
      refine lv_aload_n hx hb dX14_texture_32 rfl (lv_at hl 2 rfl) ?_
      obtain ⟨v7, hv, hw⟩ := sv_bd hw
      refine sv_rgP hx hb hown hC.1 hR (fl_X14_texture_15 hts hC hni) rfl (by decide) rfl rfl hv dX14_texture_33 ?_
      refine lv_iload_n hx hb dX14_texture_36 rfl (lv_at hl 1 rfl) ?_
      refine lv_iconst (v := 1) hx hb dX14_texture_37 (by decide) ?_
      refine lv_iadd hx hb dX14_texture_38 ?_
      obtain ⟨v8, hv, hw⟩ := sv_bd hw
      refine sv_rlB hx hb hC.1 rfl hR hv dX14_texture_39 ?_
      refine lv_ishl hx hb dX14_texture_40 ?_
      refine lv_istore (lv' := [(5, .int ((1 : Int32) <<< (v8 &&& 31))), (4, .int ((1 : Int32) <<< (v6 &&& 31))), (3, .int r3), (0, .ref x0), (1, .int x1), (2, .int x2)]) hx hb dX14_texture_41 hl (by decide) rfl (fun ls hl => ?_)
      refine lv_iload_n hx hb dX14_texture_43 rfl (lv_at hl 5 rfl) ?_
      refine lv_iconst (v := 2) hx hb dX14_texture_44 (by decide) ?_
      refine lv_icmp_ge (tgt := 60) hx hb dX14_texture_45 (by decide) (fun cc => ?_) (fun cc => ?_)
      · have hw := sv_ift cc hw
        refine lv_iload_n hx hb dX14_texture_60 rfl (lv_at hl 5 rfl) ?_
        refine lv_iconst (v := 2) hx hb dX14_texture_61 (by decide) ?_
        refine lv_isub hx hb dX14_texture_62 ?_
        refine lv_bipush (v := 16) hx hb dX14_texture_63 (by decide) ?_
        refine lv_idiv hx hb dX14_texture_65 (by decide) ?_
        refine lv_istore (lv' := [(6, .int ((x2 - 2) / 16)), (5, .int ((1 : Int32) <<< (v8 &&& 31))), (4, .int ((1 : Int32) <<< (v6 &&& 31))), (3, .int r3), (0, .ref x0), (1, .int x1), (2, .int x2)]) hx hb dX14_texture_66 hl (by decide) rfl (fun ls hl => ?_)
        refine lv_iload_n hx hb dX14_texture_68 rfl (lv_at hl 6 rfl) ?_
        refine lv_iconst (v := 2) hx hb dX14_texture_69 (by decide) ?_
        refine lv_isub hx hb dX14_texture_70 ?_
        refine lv_bipush (v := 16) hx hb dX14_texture_71 (by decide) ?_
        refine lv_irem hx hb dX14_texture_73 (by decide) ?_
        refine lv_istore (lv' := [(7, .int ((x2 - 2) - (x2 - 2) / 16 * 16)), (6, .int ((x2 - 2) / 16)), (5, .int ((1 : Int32) <<< (v8 &&& 31))), (4, .int ((1 : Int32) <<< (v6 &&& 31))), (3, .int r3), (0, .ref x0), (1, .int x1), (2, .int x2)]) hx hb dX14_texture_74 hl (by decide) rfl (fun ls hl => ?_)
        refine lv_iload hx hb dX14_texture_76 (lv_at hl 1 rfl) ?_
        refine lv_iload hx hb dX14_texture_78 (lv_at hl 2 rfl) ?_
        refine lv_icmp_ge (tgt := 110) hx hb dX14_texture_80 (by decide) (fun cc => ?_) (fun cc => ?_)
        · have hw := sv_ift cc hw
          exact lk_X14_texture_110 K hw hR hS (lv_sub hl [] rfl)
        · have hw := sv_iff cc hw
          refine lv_iload hx hb dX14_texture_83 (lv_at hl 0 rfl) ?_
          refine lv_iload hx hb dX14_texture_85 (lv_at hl 3 rfl) ?_
          refine lv_icmp_ge (tgt := 110) hx hb dX14_texture_87 (by decide) (fun cc => ?_) (fun cc => ?_)
          · have hw := sv_ift cc hw
            exact lk_X14_texture_110 K hw hR hS (lv_sub hl [] rfl)
          · have hw := sv_iff cc hw
            refine lv_aload_n hx hb dX14_texture_90 rfl (lv_at hl 5 rfl) ?_
            obtain ⟨v9, hv, hw⟩ := sv_bd hw
            refine sv_rgP hx hb hown hC.1 hR (fl_X14_texture_15 hts hC hni) rfl (by decide) rfl rfl hv dX14_texture_91 ?_
            refine lv_iload_n hx hb dX14_texture_94 rfl (lv_at hl 4 rfl) ?_
            refine lv_iconst (v := 2) hx hb dX14_texture_95 (by decide) ?_
            refine lv_iadd hx hb dX14_texture_96 ?_
            refine lv_iload hx hb dX14_texture_97 (lv_at hl 3 rfl) ?_
            refine lv_iload hx hb dX14_texture_99 (lv_at hl 1 rfl) ?_
            refine lv_imul hx hb dX14_texture_101 ?_
            refine lv_iadd hx hb dX14_texture_102 ?_
            refine lv_iload hx hb dX14_texture_103 (lv_at hl 0 rfl) ?_
            refine lv_iadd hx hb dX14_texture_105 ?_
            obtain ⟨v10, hv, hw⟩ := sv_bd hw
            refine sv_rlB hx hb hC.1 rfl hR hv dX14_texture_106 ?_
            refine lv_goto (tgt := 111) hx hb dX14_texture_107 (by decide) ?_
            exact lk_X14_texture_111 K hw hR hS (lv_sub hl [] rfl)
      · have hw := sv_iff cc hw
        refine lv_iload_n hx hb dX14_texture_48 rfl (lv_at hl 5 rfl) ?_
        refine lv_if_ne (tgt := 57) hx hb dX14_texture_49 (by decide) (fun cc => ?_) (fun cc => ?_)
        · have hw := sv_iff cc hw
          refine lv_iload hx hb dX14_texture_57 (lv_at hl 0 rfl) ?_
          exact lk_X14_texture_59 K hw hR hS (lv_sub hl [] rfl)
        · have hw := sv_ift cc hw
          refine lv_iload hx hb dX14_texture_52 (lv_at hl 1 rfl) ?_
          refine lv_goto (tgt := 59) hx hb dX14_texture_54 (by decide) ?_
          exact lk_X14_texture_59 K hw hR hS (lv_sub hl [] rfl)
    · have hw := sv_iff cc hw
      exact lk_X14_texture_13 K hw hR hS (lv_sub hl [] rfl)
set_option maxHeartbeats 4000000 in
set_option maxRecDepth 100000 in
theorem mt_X14_texture (l : Launch) (G : sv_G) (B : Nat) {x0 : Nat} {x1 : Int32} {x2 : Int32} {h : sv_H} {r : Int32} {hE : sv_H} (hw : fn_X14_texture x0 x1 x2 h = some (r, hE)) : Met l yX14_texture (.code yX14_texture cX14_texture 8 (some .int) :: sv_tb) rm_X14_texture (sv_Pc G B [.ref x0, .int x1, .int x2] h) (sv_Q G B (some (.int r)) hE) 0 0 (fun q => B ≤ q) := by
  refine Met.ofW (cc := cX14_texture) (maxL := 8) (ret := (some .int)) (by decide +kernel) rfl ?_
  intro p e s m args below meth c s₁ Bd hml hv
  obtain ⟨rfl, hR, hC, hB⟩ := hv
  have hl := lv_entry ([.ref x0, .int x1, .int x2]) (n := 8) (Nat.le_of_ble_eq_true rfl)
  rw [lg_entry_eq]
  generalize (lg_sl ([.ref x0, .int x1, .int x2]) ++ List.replicate (8 - (lg_sl ([.ref x0, .int x1, .int x2])).length) Slot.unset).toArray = ls at hl ⊢
  have hl : lv_has ls 8 [(0, .ref x0), (1, .int x1), (2, .int x2)] := hl
  exact lk_X14_texture_0 ⟨Bd.exec, Bd.bytes, hml, findClass_of_methodNamed Bd.named, fun w h => atoms_spec (ws := .code yX14_texture cX14_texture 8 (some .int) :: sv_tb) Bd.pre w (List.mem_cons_of_mem _ h), hC, Bd.notSynchronized, Bd.returns, hB, (name_of_methodNamed Bd.named Bd.method).1⟩ hw hR va_S.rf hl

def rm_X17_modulo : Room := { frames := 0, cells := 0, slots := 0, locals := 0 }
set_option maxHeartbeats 4000000 in
set_option maxRecDepth 100000 in
theorem lk_X17_modulo_0 {p : Program} {l : Launch} {e : Env} {s : State} {m : MethodId} {args : Array Value} {below : List Frame} {meth : Method} {c : Code} {G : sv_G} {B : Nat} (K : sv_W p s m args meth c cX17_modulo RX17 3 (some .int) G B "modulo") {r : Int32} {hE : sv_H} {x0 : Int64} {x2 : Int32} {h : sv_H} (hw : fn_X17_modulo x0 x2 h = some (r, hE)) {H : Heap} {locs : List Loc} {ls : Array Slot} (hR : sv_R G vwCl sv_ft B h H) (hS : va_S (fun q => B ≤ q) s.heap H locs) (hl : lv_has ls 3 [(0, .long x0), (2, .int x2)]) : W p l e rm_X17_modulo s m args below meth c H locs 0 0 (sv_Z below s args G B (some (.int r)) hE) (F0 m 0 ls []) := by
  obtain ⟨hx, hb, hml, hown, hts, hC, hlk, hr, hBs, hni⟩ := id K
  unfold fn_X17_modulo at hw
  refine lv_lload_n hx hb dX17_modulo_0 rfl (lv_at hl 0 rfl) ?_
  refine lv_iload_n hx hb dX17_modulo_1 rfl (lv_at hl 1 rfl) ?_
  refine lv_i2l hx hb dX17_modulo_2 rfl ?_
  obtain ⟨hz, hw⟩ := sv_nz hw
  refine lv_lrem hx hb dX17_modulo_3 hz ?_
  refine lv_iload_n hx hb dX17_modulo_4 rfl (lv_at hl 1 rfl) ?_
  refine lv_i2l hx hb dX17_modulo_5 rfl ?_
  refine lv_ladd hx hb dX17_modulo_6 ?_
  refine lv_iload_n hx hb dX17_modulo_7 rfl (lv_at hl 1 rfl) ?_
  refine lv_i2l hx hb dX17_modulo_8 rfl ?_
  obtain ⟨hz, hw⟩ := sv_nz hw
  refine lv_lrem hx hb dX17_modulo_9 hz ?_
  refine lv_l2i hx hb dX17_modulo_10 rfl ?_
  obtain ⟨rfl, rfl⟩ := sv_ret hw
  exact W.iret hx hb hr (fun t ht hW => ⟨⟨rfl, by rw [ht]; exact hR⟩, hS.F ht⟩) hS.2.2 dX17_modulo_11
set_option maxHeartbeats 4000000 in
set_option maxRecDepth 100000 in
theorem mt_X17_modulo (l : Launch) (G : sv_G) (B : Nat) {x0 : Int64} {x2 : Int32} {h : sv_H} {r : Int32} {hE : sv_H} (hw : fn_X17_modulo x0 x2 h = some (r, hE)) : Met l yX17_modulo (.code yX17_modulo cX17_modulo 3 (some .int) :: sv_tb) rm_X17_modulo (sv_Pc G B [.long x0, .int x2] h) (sv_Q G B (some (.int r)) hE) 0 0 (fun q => B ≤ q) := by
  refine Met.ofW (cc := cX17_modulo) (maxL := 3) (ret := (some .int)) (by decide +kernel) rfl ?_
  intro p e s m args below meth c s₁ Bd hml hv
  obtain ⟨rfl, hR, hC, hB⟩ := hv
  have hl := lv_entry ([.long x0, .int x2]) (n := 3) (Nat.le_of_ble_eq_true rfl)
  rw [lg_entry_eq]
  generalize (lg_sl ([.long x0, .int x2]) ++ List.replicate (3 - (lg_sl ([.long x0, .int x2])).length) Slot.unset).toArray = ls at hl ⊢
  have hl : lv_has ls 3 [(0, .long x0), (2, .int x2)] := hl
  exact lk_X17_modulo_0 ⟨Bd.exec, Bd.bytes, hml, findClass_of_methodNamed Bd.named, fun w h => atoms_spec (ws := .code yX17_modulo cX17_modulo 3 (some .int) :: sv_tb) Bd.pre w (List.mem_cons_of_mem _ h), hC, Bd.notSynchronized, Bd.returns, hB, (name_of_methodNamed Bd.named Bd.method).1⟩ hw hR va_S.rf hl

def rm_X17_texel : Room := { frames := 3, cells := 0, slots := 0, locals := 71 }
theorem fl_X17_texel_10 {s : State} {meth : Method} {args : Array Value} {G : sv_G} {B : Nat} (hts : ∀ w ∈ sv_tb, w.before args s = true) (hC : sv_Cx G B s s.heap) (hni : meth.name = "texel") : sv_FL s meth args vwCl RX17 10 17 1 (.object "SectorViewModel$Lumps") false :=
  ⟨_, RX17, TX17, 29, sv_tb, tyX17, rfl, by decide, hts, uw_X17, Or.inl (hts _ wd_1692), fun _ h => h, tyX17_ok 1 (by decide), tyX17_ok, nmX17, fun h => by cases h⟩
set_option maxHeartbeats 4000000 in
set_option maxRecDepth 100000 in
theorem lk_X17_texel_0 {p : Program} {l : Launch} {e : Env} {s : State} {m : MethodId} {args : Array Value} {below : List Frame} {meth : Method} {c : Code} {G : sv_G} {B : Nat} (K : sv_W p s m args meth c cX17_texel RX17 8 (some .int) G B "texel") {r : Int32} {hE : sv_H} {x0 : Nat} {x1 : Int32} {x2 : Int64} {x4 : Int64} {h : sv_H} (hw : fn_X17_texel x0 x1 x2 x4 h = some (r, hE)) {H : Heap} {locs : List Loc} {ls : Array Slot} (hR : sv_R G vwCl sv_ft B h H) (hS : va_S (fun q => B ≤ q) s.heap H locs) (hl : lv_has ls 8 [(0, .ref x0), (1, .int x1), (2, .long x2), (4, .long x4)]) : W p l e rm_X17_texel s m args below meth c H locs 0 0 (sv_Z below s args G B (some (.int r)) hE) (F0 m 0 ls []) := by
  obtain ⟨hx, hb, hml, hown, hts, hC, hlk, hr, hBs, hni⟩ := id K
  unfold fn_X17_texel at hw
  have hw := (sv_go hw).2
  refine lv_iload_n hx hb dX17_texel_0 rfl (lv_at hl 1 rfl) ?_
  refine lv_sipush (v := 255) hx hb dX17_texel_1 (by decide) ?_
  refine lv_icmp_ne (tgt := 9) hx hb dX17_texel_4 (by decide) (fun cc => ?_) (fun cc => ?_)
  · have hw := sv_iff cc hw
    refine lv_aload_n hx hb dX17_texel_9 rfl (lv_at hl 0 rfl) ?_
    obtain ⟨v1, hv, hw⟩ := sv_bd hw
    refine sv_rgP hx hb hown hC.1 hR (fl_X17_texel_10 hts hC hni) rfl (by decide) rfl rfl hv dX17_texel_10 ?_
    refine lv_iload_n hx hb dX17_texel_13 rfl (lv_at hl 1 rfl) ?_
    refine lv_iconst (v := 0) hx hb dX17_texel_14 (by decide) ?_
    obtain ⟨r2, h3, hv1, hw⟩ := sv_b_some hw
    refine sv_call (va_runV (As := [.int x1, .int 0]) (rest := []) ⟨hx, hb, hml, hown, hts⟩ (mt_X14_texture l G B hv1) (cwV 2 hts (sv_gV wd_2083 wd_2084 wd_2085 wd_145 wd_2086) rfl rfl rfl (by decide +kernel) ⟨Nat.le_of_ble_eq_true rfl, Nat.le_of_ble_eq_true rfl⟩) ⟨sv_blind, sv_recv hC.1 hR (ci := 14) (sv_go hv1).1 (by decide) rfl, fun U hU hW => sv_pre hC hR hS hBs hU hW⟩ rfl rfl hl.1 rfl (lv_room (Nat.le_of_ble_eq_true rfl)) dX17_texel_15 ⟨Nat.zero_le _, Nat.zero_le _⟩) hS (fun H locs hR hS => ?_)
    refine lv_istore (lv' := [(6, .int r2), (0, .ref x0), (1, .int x1), (2, .long x2), (4, .long x4)]) hx hb dX17_texel_18 hl (by decide) rfl (fun ls hl => ?_)
    refine lv_aload_n hx hb dX17_texel_20 rfl (lv_at hl 1 rfl) ?_
    obtain ⟨v4, hv, hw⟩ := sv_bd hw
    refine sv_rgP hx hb hown hC.1 hR (fl_X17_texel_10 hts hC hni) rfl (by decide) rfl rfl hv dX17_texel_21 ?_
    refine lv_iload_n hx hb dX17_texel_24 rfl (lv_at hl 2 rfl) ?_
    refine lv_iconst (v := 1) hx hb dX17_texel_25 (by decide) ?_
    obtain ⟨r5, h6, hv2, hw⟩ := sv_b_some hw
    refine sv_call (va_runV (As := [.int x1, .int 1]) (rest := []) ⟨hx, hb, hml, hown, hts⟩ (mt_X14_texture l G B hv2) (cwV 2 hts (sv_gV wd_2083 wd_2084 wd_2085 wd_145 wd_2086) rfl rfl rfl (by decide +kernel) ⟨Nat.le_of_ble_eq_true rfl, Nat.le_of_ble_eq_true rfl⟩) ⟨sv_blind, sv_recv hC.1 hR (ci := 14) (sv_go hv2).1 (by decide) rfl, fun U hU hW => sv_pre hC hR hS hBs hU hW⟩ rfl rfl hl.1 rfl (lv_room (Nat.le_of_ble_eq_true rfl)) dX17_texel_26 ⟨Nat.zero_le _, Nat.zero_le _⟩) hS (fun H locs hR hS => ?_)
    refine lv_istore (lv' := [(7, .int r5), (6, .int r2), (0, .ref x0), (1, .int x1), (2, .long x2), (4, .long x4)]) hx hb dX17_texel_29 hl (by decide) rfl (fun ls hl => ?_)
    refine lv_aload_n hx hb dX17_texel_31 rfl (lv_at hl 2 rfl) ?_
    obtain ⟨v7, hv, hw⟩ := sv_bd hw
    refine sv_rgP hx hb hown hC.1 hR (fl_X17_texel_10 hts hC hni) rfl (by decide) rfl rfl hv dX17_texel_32 ?_
    refine lv_iload_n hx hb dX17_texel_35 rfl (lv_at hl 3 rfl) ?_
    refine lv_iconst (v := 2) hx hb dX17_texel_36 (by decide) ?_
    refine lv_bipush (v := 16) hx hb dX17_texel_37 (by decide) ?_
    refine lv_lload hx hb dX17_texel_39 (lv_at hl 5 rfl) ?_
    refine lv_iload hx hb dX17_texel_41 (lv_at hl 0 rfl) ?_
    obtain ⟨r8, h9, hv3, hw⟩ := sv_b_some hw
    refine sv_call (va_runS (As := [.long x4, .int r5]) (rest := [.int 16, .int 2, .int x1, .ref v7]) ⟨hx, hb, hml, hown, hts⟩ (mt_X17_modulo l G B hv3) (va_cwS 2 hts (sv_gS wd_2087 wd_2088 wd_144 wd_2089) rfl rfl rfl (by decide +kernel) ⟨Nat.le_of_ble_eq_true rfl, Nat.le_of_ble_eq_true rfl⟩) ⟨sv_blind, fun U hU hW => sv_pre hC hR hS hBs hU hW⟩ rfl rfl hl.1 rfl (lv_room (Nat.le_of_ble_eq_true rfl)) dX17_texel_43 ⟨Nat.zero_le _, Nat.zero_le _⟩) hS (fun H locs hR hS => ?_)
    refine lv_imul hx hb dX17_texel_46 ?_
    refine lv_iadd hx hb dX17_texel_47 ?_
    refine lv_lload_n hx hb dX17_texel_48 rfl (lv_at hl 4 rfl) ?_
    refine lv_iload hx hb dX17_texel_49 (lv_at hl 1 rfl) ?_
    obtain ⟨r10, h11, hv4, hw⟩ := sv_b_some hw
    refine sv_call (va_runS (As := [.long x2, .int r2]) (rest := [.int (2 + (16 * r8)), .int x1, .ref v7]) ⟨hx, hb, hml, hown, hts⟩ (mt_X17_modulo l G B hv4) (va_cwS 2 hts (sv_gS wd_2087 wd_2088 wd_144 wd_2089) rfl rfl rfl (by decide +kernel) ⟨Nat.le_of_ble_eq_true rfl, Nat.le_of_ble_eq_true rfl⟩) ⟨sv_blind, fun U hU hW => sv_pre hC hR hS hBs hU hW⟩ rfl rfl hl.1 rfl (lv_room (Nat.le_of_ble_eq_true rfl)) dX17_texel_51 ⟨Nat.zero_le _, Nat.zero_le _⟩) hS (fun H locs hR hS => ?_)
    refine lv_iadd hx hb dX17_texel_54 ?_
    obtain ⟨r12, h13, hv5, hw⟩ := sv_b_some hw
    refine sv_call (va_runV (As := [.int x1, .int ((2 + (16 * r8)) + r10)]) (rest := []) ⟨hx, hb, hml, hown, hts⟩ (mt_X14_texture l G B hv5) (cwV 2 hts (sv_gV wd_2083 wd_2084 wd_2085 wd_145 wd_2086) rfl rfl rfl (by decide +kernel) ⟨Nat.le_of_ble_eq_true rfl, Nat.le_of_ble_eq_true rfl⟩) ⟨sv_blind, sv_recv hC.1 hR (ci := 14) (sv_go hv5).1 (by decide) rfl, fun U hU hW => sv_pre hC hR hS hBs hU hW⟩ rfl rfl hl.1 rfl (lv_room (Nat.le_of_ble_eq_true rfl)) dX17_texel_55 ⟨Nat.zero_le _, Nat.zero_le _⟩) hS (fun H locs hR hS => ?_)
    obtain ⟨rfl, rfl⟩ := sv_ret hw
    exact W.iret hx hb hr (fun t ht hW => ⟨⟨rfl, by rw [ht]; exact hR⟩, hS.F ht⟩) hS.2.2 dX17_texel_58
  · have hw := sv_ift cc hw
    refine lv_iconst (v := 0) hx hb dX17_texel_7 (by decide) ?_
    obtain ⟨rfl, rfl⟩ := sv_ret hw
    exact W.iret hx hb hr (fun t ht hW => ⟨⟨rfl, by rw [ht]; exact hR⟩, hS.F ht⟩) hS.2.2 dX17_texel_8
set_option maxHeartbeats 4000000 in
set_option maxRecDepth 100000 in
theorem mt_X17_texel (l : Launch) (G : sv_G) (B : Nat) {x0 : Nat} {x1 : Int32} {x2 : Int64} {x4 : Int64} {h : sv_H} {r : Int32} {hE : sv_H} (hw : fn_X17_texel x0 x1 x2 x4 h = some (r, hE)) : Met l yX17_texel (.code yX17_texel cX17_texel 8 (some .int) :: sv_tb) rm_X17_texel (sv_Pc G B [.ref x0, .int x1, .long x2, .long x4] h) (sv_Q G B (some (.int r)) hE) 0 0 (fun q => B ≤ q) := by
  refine Met.ofW (cc := cX17_texel) (maxL := 8) (ret := (some .int)) (by decide +kernel) rfl ?_
  intro p e s m args below meth c s₁ Bd hml hv
  obtain ⟨rfl, hR, hC, hB⟩ := hv
  have hl := lv_entry ([.ref x0, .int x1, .long x2, .long x4]) (n := 8) (Nat.le_of_ble_eq_true rfl)
  rw [lg_entry_eq]
  generalize (lg_sl ([.ref x0, .int x1, .long x2, .long x4]) ++ List.replicate (8 - (lg_sl ([.ref x0, .int x1, .long x2, .long x4])).length) Slot.unset).toArray = ls at hl ⊢
  have hl : lv_has ls 8 [(0, .ref x0), (1, .int x1), (2, .long x2), (4, .long x4)] := hl
  exact lk_X17_texel_0 ⟨Bd.exec, Bd.bytes, hml, findClass_of_methodNamed Bd.named, fun w h => atoms_spec (ws := .code yX17_texel cX17_texel 8 (some .int) :: sv_tb) Bd.pre w (List.mem_cons_of_mem _ h), hC, Bd.notSynchronized, Bd.returns, hB, (name_of_methodNamed Bd.named Bd.method).1⟩ hw hR va_S.rf hl

def rm_X17_shade : Room := { frames := 3, cells := 0, slots := 0, locals := 67 }
theorem fl_X17_shade_26 {s : State} {meth : Method} {args : Array Value} {G : sv_G} {B : Nat} (hts : ∀ w ∈ sv_tb, w.before args s = true) (hC : sv_Cx G B s s.heap) (hni : meth.name = "shade") : sv_FL s meth args vwCl RX17 26 17 3 (.object "SectorViewModel$Hall") false :=
  ⟨_, RX17, TX17, 29, sv_tb, tyX17, rfl, by decide, hts, uw_X17, Or.inl (hts _ wd_1694), fun _ h => h, tyX17_ok 3 (by decide), tyX17_ok, nmX17, fun h => by cases h⟩
set_option maxHeartbeats 4000000 in
set_option maxRecDepth 100000 in
theorem lk_X17_shade_28 {p : Program} {l : Launch} {e : Env} {s : State} {m : MethodId} {args : Array Value} {below : List Frame} {meth : Method} {c : Code} {G : sv_G} {B : Nat} (K : sv_W p s m args meth c cX17_shade RX17 6 (some .int) G B "shade") {r : Int32} {hE : sv_H} {s0 : Int32} {h : sv_H} (hw : fn_X17_shade_28 s0 h = some (r, hE)) {H : Heap} {locs : List Loc} {ls : Array Slot} (hR : sv_R G vwCl sv_ft B h H) (hS : va_S (fun q => B ≤ q) s.heap H locs) (hl : lv_has ls 6 []) : W p l e rm_X17_shade s m args below meth c H locs 0 0 (sv_Z below s args G B (some (.int r)) hE) (F0 m 28 ls [.int s0]) := by
  obtain ⟨hx, hb, hml, hown, hts, hC, hlk, hr, hBs, hni⟩ := id K
  unfold fn_X17_shade_28 at hw
  obtain ⟨rfl, rfl⟩ := sv_ret hw
  exact W.iret hx hb hr (fun t ht hW => ⟨⟨rfl, by rw [ht]; exact hR⟩, hS.F ht⟩) hS.2.2 dX17_shade_28
set_option maxHeartbeats 4000000 in
set_option maxRecDepth 100000 in
theorem lk_X17_shade_0 {p : Program} {l : Launch} {e : Env} {s : State} {m : MethodId} {args : Array Value} {below : List Frame} {meth : Method} {c : Code} {G : sv_G} {B : Nat} (K : sv_W p s m args meth c cX17_shade RX17 6 (some .int) G B "shade") {r : Int32} {hE : sv_H} {x0 : Nat} {x1 : Int32} {x2 : Int64} {h : sv_H} (hw : fn_X17_shade x0 x1 x2 h = some (r, hE)) {H : Heap} {locs : List Loc} {ls : Array Slot} (hR : sv_R G vwCl sv_ft B h H) (hS : va_S (fun q => B ≤ q) s.heap H locs) (hl : lv_has ls 6 [(0, .ref x0), (1, .int x1), (2, .long x2)]) : W p l e rm_X17_shade s m args below meth c H locs 0 0 (sv_Z below s args G B (some (.int r)) hE) (F0 m 0 ls []) := by
  obtain ⟨hx, hb, hml, hown, hts, hC, hlk, hr, hBs, hni⟩ := id K
  unfold fn_X17_shade at hw
  have hw := (sv_go hw).2
  refine lv_aload_n hx hb dX17_shade_0 rfl (lv_at hl 0 rfl) ?_
  obtain ⟨v1, hv, hw⟩ := sv_bd hw
  refine sv_rgP hx hb hown hC.1 hR (fl_X17_shade_26 hts hC hni) rfl (by decide) rfl rfl hv dX17_shade_1 ?_
  refine lv_iload_n hx hb dX17_shade_4 rfl (lv_at hl 1 rfl) ?_
  refine lv_iconst (v := 2) hx hb dX17_shade_5 (by decide) ?_
  obtain ⟨r2, h3, hv1, hw⟩ := sv_b_some hw
  refine sv_call (va_runV (As := [.int x1, .int 2]) (rest := []) ⟨hx, hb, hml, hown, hts⟩ (mt_X13_of l G B hv1) (cwV 2 hts (sv_gV wd_2094 wd_2095 wd_2096 wd_147 wd_2097) rfl rfl rfl (by decide +kernel) ⟨Nat.le_of_ble_eq_true rfl, Nat.le_of_ble_eq_true rfl⟩) ⟨sv_blind, sv_recv hC.1 hR (ci := 13) (sv_go hv1).1 (by decide) rfl, fun U hU hW => sv_pre hC hR hS hBs hU hW⟩ rfl rfl hl.1 rfl (lv_room (Nat.le_of_ble_eq_true rfl)) dX17_shade_6 ⟨Nat.zero_le _, Nat.zero_le _⟩) hS (fun H locs hR hS => ?_)
  refine lv_i2l hx hb dX17_shade_9 rfl ?_
  refine lv_lload_n hx hb dX17_shade_10 rfl (lv_at hl 2 rfl) ?_
  refine lv_lsub hx hb dX17_shade_11 ?_
  refine lv_lstore (lv' := [(4, .long ((Int32.toInt64 r2) - x2)), (0, .ref x0), (1, .int x1), (2, .long x2)]) hx hb dX17_shade_12 hl (by decide) rfl (fun ls hl => ?_)
  refine lv_lload hx hb dX17_shade_14 (lv_at hl 0 rfl) ?_
  refine lv_lconst (v := 0) hx hb dX17_shade_16 (by decide) ?_
  refine W.lcmp hx hb dX17_shade_17 ?_
  refine lv_if_ge (tgt := 25) hx hb dX17_shade_18 (by decide) (fun cc => ?_) (fun cc => ?_)
  · have hw := sv_ift cc hw
    refine lv_lload hx hb dX17_shade_25 (lv_at hl 0 rfl) ?_
    refine lv_l2i hx hb dX17_shade_27 rfl ?_
    exact lk_X17_shade_28 K hw hR hS (lv_sub hl [] rfl)
  · have hw := sv_iff cc hw
    refine lv_iconst (v := 0) hx hb dX17_shade_21 (by decide) ?_
    refine lv_goto (tgt := 28) hx hb dX17_shade_22 (by decide) ?_
    exact lk_X17_shade_28 K hw hR hS (lv_sub hl [] rfl)
set_option maxHeartbeats 4000000 in
set_option maxRecDepth 100000 in
theorem mt_X17_shade (l : Launch) (G : sv_G) (B : Nat) {x0 : Nat} {x1 : Int32} {x2 : Int64} {h : sv_H} {r : Int32} {hE : sv_H} (hw : fn_X17_shade x0 x1 x2 h = some (r, hE)) : Met l yX17_shade (.code yX17_shade cX17_shade 6 (some .int) :: sv_tb) rm_X17_shade (sv_Pc G B [.ref x0, .int x1, .long x2] h) (sv_Q G B (some (.int r)) hE) 0 0 (fun q => B ≤ q) := by
  refine Met.ofW (cc := cX17_shade) (maxL := 6) (ret := (some .int)) (by decide +kernel) rfl ?_
  intro p e s m args below meth c s₁ Bd hml hv
  obtain ⟨rfl, hR, hC, hB⟩ := hv
  have hl := lv_entry ([.ref x0, .int x1, .long x2]) (n := 6) (Nat.le_of_ble_eq_true rfl)
  rw [lg_entry_eq]
  generalize (lg_sl ([.ref x0, .int x1, .long x2]) ++ List.replicate (6 - (lg_sl ([.ref x0, .int x1, .long x2])).length) Slot.unset).toArray = ls at hl ⊢
  have hl : lv_has ls 6 [(0, .ref x0), (1, .int x1), (2, .long x2)] := hl
  exact lk_X17_shade_0 ⟨Bd.exec, Bd.bytes, hml, findClass_of_methodNamed Bd.named, fun w h => atoms_spec (ws := .code yX17_shade cX17_shade 6 (some .int) :: sv_tb) Bd.pre w (List.mem_cons_of_mem _ h), hC, Bd.notSynchronized, Bd.returns, hB, (name_of_methodNamed Bd.named Bd.method).1⟩ hw hR va_S.rf hl

def rm_X17_flat : Room := { frames := 4, cells := 0, slots := 0, locals := 98 }
theorem fl_X17_flat_54 {s : State} {meth : Method} {args : Array Value} {G : sv_G} {B : Nat} (hts : ∀ w ∈ sv_tb, w.before args s = true) (hC : sv_Cx G B s s.heap) (hni : meth.name = "flat") : sv_FL s meth args vwCl RX17 54 17 25 (.array .int) false :=
  ⟨_, RX17, TX17, 29, sv_tb, tyX17, rfl, by decide, hts, uw_X17, Or.inl (hts _ wd_1716), fun _ h => h, tyX17_ok 25 (by decide), tyX17_ok, nmX17, fun h => by cases h⟩
theorem fl_X17_flat_51 {s : State} {meth : Method} {args : Array Value} {G : sv_G} {B : Nat} (hts : ∀ w ∈ sv_tb, w.before args s = true) (hC : sv_Cx G B s s.heap) (hni : meth.name = "flat") : sv_FL s meth args vwCl RX17 51 17 24 (.array .int) false :=
  ⟨_, RX17, TX17, 29, sv_tb, tyX17, rfl, by decide, hts, uw_X17, Or.inl (hts _ wd_1715), fun _ h => h, tyX17_ok 24 (by decide), tyX17_ok, nmX17, fun h => by cases h⟩
theorem fl_X17_flat_185 {s : State} {meth : Method} {args : Array Value} {G : sv_G} {B : Nat} (hts : ∀ w ∈ sv_tb, w.before args s = true) (hC : sv_Cx G B s s.heap) (hni : meth.name = "flat") : sv_FL s meth args vwCl RX17 185 17 12 .int true :=
  ⟨_, RX17, TX17, 29, sv_tb, tyX17, rfl, by decide, hts, uw_X17, Or.inl (hts _ wd_1703), fun _ h => h, tyX17_ok 12 (by decide), tyX17_ok, nmX17, fun _ => Or.inl rfl⟩
theorem fl_X17_flat_179 {s : State} {meth : Method} {args : Array Value} {G : sv_G} {B : Nat} (hts : ∀ w ∈ sv_tb, w.before args s = true) (hC : sv_Cx G B s s.heap) (hni : meth.name = "flat") : sv_FL s meth args vwCl RX17 179 17 28 .long true :=
  ⟨_, RX17, TX17, 29, sv_tb, tyX17, rfl, by decide, hts, uw_X17, Or.inl (hts _ wd_1719), fun _ h => h, tyX17_ok 28 (by decide), tyX17_ok, nmX17, fun _ => Or.inl rfl⟩
theorem fl_X17_flat_182 {s : State} {meth : Method} {args : Array Value} {G : sv_G} {B : Nat} (hts : ∀ w ∈ sv_tb, w.before args s = true) (hC : sv_Cx G B s s.heap) (hni : meth.name = "flat") : sv_FL s meth args vwCl RX17 182 17 11 .int true :=
  ⟨_, RX17, TX17, 29, sv_tb, tyX17, rfl, by decide, hts, uw_X17, Or.inl (hts _ wd_1702), fun _ h => h, tyX17_ok 11 (by decide), tyX17_ok, nmX17, fun _ => Or.inl rfl⟩
theorem fl_X17_flat_175 {s : State} {meth : Method} {args : Array Value} {G : sv_G} {B : Nat} (hts : ∀ w ∈ sv_tb, w.before args s = true) (hC : sv_Cx G B s s.heap) (hni : meth.name = "flat") : sv_FL s meth args vwCl RX17 175 17 27 .long true :=
  ⟨_, RX17, TX17, 29, sv_tb, tyX17, rfl, by decide, hts, uw_X17, Or.inl (hts _ wd_1718), fun _ h => h, tyX17_ok 27 (by decide), tyX17_ok, nmX17, fun _ => Or.inl rfl⟩
theorem fl_X17_flat_26 {s : State} {meth : Method} {args : Array Value} {G : sv_G} {B : Nat} (hts : ∀ w ∈ sv_tb, w.before args s = true) (hC : sv_Cx G B s s.heap) (hni : meth.name = "flat") : sv_FL s meth args vwCl RX17 26 17 3 (.object "SectorViewModel$Hall") false :=
  ⟨_, RX17, TX17, 29, sv_tb, tyX17, rfl, by decide, hts, uw_X17, Or.inl (hts _ wd_1694), fun _ h => h, tyX17_ok 3 (by decide), tyX17_ok, nmX17, fun h => by cases h⟩
theorem fl_X17_flat_221 {s : State} {meth : Method} {args : Array Value} {G : sv_G} {B : Nat} (hts : ∀ w ∈ sv_tb, w.before args s = true) (hC : sv_Cx G B s s.heap) (hni : meth.name = "flat") : sv_FL s meth args vwCl RX17 221 13 8 (.array .int) false :=
  ⟨_, RX13, TX13, 18, sv_tb, tyX13, rfl, by decide, hts, uw_X13, Or.inr ⟨"SectorViewModel", Or.inr ⟨rfl, va_Nw.use rfl (hC.2.1 (.fieldLinkNest "SectorViewModel" 221 "SectorViewModel$Hall" "floors" "[I" "SectorViewModel") (by decide +kernel))⟩⟩, fun _ h => h, tyX13_ok 8 (by decide), tyX13_ok, nmX13, fun h => by cases h⟩
theorem fl_X17_flat_247 {s : State} {meth : Method} {args : Array Value} {G : sv_G} {B : Nat} (hts : ∀ w ∈ sv_tb, w.before args s = true) (hC : sv_Cx G B s s.heap) (hni : meth.name = "flat") : sv_FL s meth args vwCl RX17 247 13 9 (.array .int) false :=
  ⟨_, RX13, TX13, 18, sv_tb, tyX13, rfl, by decide, hts, uw_X13, Or.inr ⟨"SectorViewModel", Or.inr ⟨rfl, va_Nw.use rfl (hC.2.1 (.fieldLinkNest "SectorViewModel" 247 "SectorViewModel$Hall" "ceilings" "[I" "SectorViewModel") (by decide +kernel))⟩⟩, fun _ h => h, tyX13_ok 9 (by decide), tyX13_ok, nmX13, fun h => by cases h⟩
theorem fl_X17_flat_10 {s : State} {meth : Method} {args : Array Value} {G : sv_G} {B : Nat} (hts : ∀ w ∈ sv_tb, w.before args s = true) (hC : sv_Cx G B s s.heap) (hni : meth.name = "flat") : sv_FL s meth args vwCl RX17 10 17 1 (.object "SectorViewModel$Lumps") false :=
  ⟨_, RX17, TX17, 29, sv_tb, tyX17, rfl, by decide, hts, uw_X17, Or.inl (hts _ wd_1692), fun _ h => h, tyX17_ok 1 (by decide), tyX17_ok, nmX17, fun h => by cases h⟩
set_option maxHeartbeats 4000000 in
set_option maxRecDepth 100000 in
theorem lk_X17_flat_293 {p : Program} {l : Launch} {e : Env} {s : State} {m : MethodId} {args : Array Value} {below : List Frame} {meth : Method} {c : Code} {G : sv_G} {B : Nat} (K : sv_W p s m args meth c cX17_flat RX17 17 none G B "flat") {r : Unit} {hE : sv_H} {k80 : Nat → Int32 → Int32 → Int32 → Int32 → Int32 → Int64 → Int32 → sv_H → Option (Unit × sv_H)} (hk80 : ∀ {x0 : Nat} {x2 : Int32} {x3 : Int32} {x4 : Int32} {x5 : Int32} {x6 : Int32} {x7 : Int64} {x9 : Int32} {h : sv_H}, k80 x0 x2 x3 x4 x5 x6 x7 x9 h = some (r, hE) → ∀ {H : Heap} {locs : List Loc} {ls : Array Slot}, sv_R G vwCl sv_ft B h H → va_S (fun q => B ≤ q) s.heap H locs → lv_has ls 17 [(0, .ref x0), (2, .int x2), (3, .int x3), (4, .int x4), (5, .int x5), (6, .int x6), (7, .long x7), (9, .int x9)] → W p l e rm_X17_flat s m args below meth c H locs 0 0 (sv_Z below s args G B none hE) (F0 m 80 ls [])) {x0 : Nat} {x2 : Int32} {x3 : Int32} {x4 : Int32} {x5 : Int32} {x6 : Int32} {x7 : Int64} {x9 : Int32} {s0 : Nat} {s1 : Int32} {s2 : Int32} {h : sv_H} (hw : fn_X17_flat_293 k80 x0 x2 x3 x4 x5 x6 x7 x9 s0 s1 s2 h = some (r, hE)) {H : Heap} {locs : List Loc} {ls : Array Slot} (hR : sv_R G vwCl sv_ft B h H) (hS : va_S (fun q => B ≤ q) s.heap H locs) (hl : lv_has ls 17 [(0, .ref x0), (2, .int x2), (3, .int x3), (4, .int x4), (5, .int x5), (6, .int x6), (7, .long x7), (9, .int x9)]) : W p l e rm_X17_flat s m args below meth c H locs 0 0 (sv_Z below s args G B none hE) (F0 m 293 ls [.int s2, .int s1, .ref s0]) := by
  obtain ⟨hx, hb, hml, hown, hts, hC, hlk, hr, hBs, hni⟩ := id K
  unfold fn_X17_flat_293 at hw
  obtain ⟨h1, hv, hw⟩ := sv_bd hw
  refine sv_rsI hx hb hC.1 rfl hR hS hv dX17_flat_293 (fun H locs hR hS => ?_)
  refine lv_iinc (v := x9 + 1) (lv' := [(9, .int (x9 + 1)), (0, .ref x0), (2, .int x2), (3, .int x3), (4, .int x4), (5, .int x5), (6, .int x6), (7, .long x7)]) hx hb dX17_flat_294 hl (k := 7) rfl rfl (by decide) rfl (fun ls hl => ?_)
  refine lv_goto (tgt := 80) hx hb dX17_flat_297 (by decide) ?_
  exact hk80 hw hR hS (lv_sub hl [1, 2, 3, 4, 5, 6, 7, 0] rfl)
set_option maxHeartbeats 4000000 in
set_option maxRecDepth 100000 in
theorem lk_X17_flat_289 {p : Program} {l : Launch} {e : Env} {s : State} {m : MethodId} {args : Array Value} {below : List Frame} {meth : Method} {c : Code} {G : sv_G} {B : Nat} (K : sv_W p s m args meth c cX17_flat RX17 17 none G B "flat") {r : Unit} {hE : sv_H} {k80 : Nat → Int32 → Int32 → Int32 → Int32 → Int32 → Int64 → Int32 → sv_H → Option (Unit × sv_H)} (hk80 : ∀ {x0 : Nat} {x2 : Int32} {x3 : Int32} {x4 : Int32} {x5 : Int32} {x6 : Int32} {x7 : Int64} {x9 : Int32} {h : sv_H}, k80 x0 x2 x3 x4 x5 x6 x7 x9 h = some (r, hE) → ∀ {H : Heap} {locs : List Loc} {ls : Array Slot}, sv_R G vwCl sv_ft B h H → va_S (fun q => B ≤ q) s.heap H locs → lv_has ls 17 [(0, .ref x0), (2, .int x2), (3, .int x3), (4, .int x4), (5, .int x5), (6, .int x6), (7, .long x7), (9, .int x9)] → W p l e rm_X17_flat s m args below meth c H locs 0 0 (sv_Z below s args G B none hE) (F0 m 80 ls [])) {x0 : Nat} {x2 : Int32} {x3 : Int32} {x4 : Int32} {x5 : Int32} {x6 : Int32} {x7 : Int64} {x9 : Int32} {s0 : Nat} {s1 : Int32} {s2 : Int32} {s3 : Nat} {s4 : Int32} {s5 : Int64} {h : sv_H} (hw : fn_X17_flat_289 k80 x0 x2 x3 x4 x5 x6 x7 x9 s0 s1 s2 s3 s4 s5 h = some (r, hE)) {H : Heap} {locs : List Loc} {ls : Array Slot} (hR : sv_R G vwCl sv_ft B h H) (hS : va_S (fun q => B ≤ q) s.heap H locs) (hl : lv_has ls 17 [(0, .ref x0), (2, .int x2), (3, .int x3), (4, .int x4), (5, .int x5), (6, .int x6), (7, .long x7), (9, .int x9)]) : W p l e rm_X17_flat s m args below meth c H locs 0 0 (sv_Z below s args G B none hE) (F0 m 289 ls [.long s5, .int s4, .ref s3, .int s2, .int s1, .ref s0]) := by
  obtain ⟨hx, hb, hml, hown, hts, hC, hlk, hr, hBs, hni⟩ := id K
  unfold fn_X17_flat_289 at hw
  obtain ⟨r1, h2, hv1, hw⟩ := sv_b_some hw
  refine sv_call (va_runV (As := [.int s4, .long s5]) (rest := [.int s2, .int s1, .ref s0]) ⟨hx, hb, hml, hown, hts⟩ (mt_X17_shade l G B hv1) (cwV 2 hts (sv_gV wd_2090 wd_2092 wd_99 wd_144 wd_2093) rfl rfl rfl (by decide +kernel) ⟨Nat.le_of_ble_eq_true rfl, Nat.le_of_ble_eq_true rfl⟩) ⟨sv_blind, sv_recv hC.1 hR (ci := 17) (sv_go hv1).1 (by decide) rfl, fun U hU hW => sv_pre hC hR hS hBs hU hW⟩ rfl rfl hl.1 rfl (lv_room (Nat.le_of_ble_eq_true rfl)) dX17_flat_289 ⟨Nat.zero_le _, Nat.zero_le _⟩) hS (fun H locs hR hS => ?_)
  refine lv_iadd hx hb dX17_flat_292 ?_
  exact lk_X17_flat_293 K hk80 hw hR hS (lv_sub hl [0, 1, 2, 3, 4, 5, 6, 7] rfl)
set_option maxHeartbeats 4000000 in
set_option maxRecDepth 100000 in
theorem lk_X17_flat_221 {p : Program} {l : Launch} {e : Env} {s : State} {m : MethodId} {args : Array Value} {below : List Frame} {meth : Method} {c : Code} {G : sv_G} {B : Nat} (K : sv_W p s m args meth c cX17_flat RX17 17 none G B "flat") {r : Unit} {hE : sv_H} {k80 : Nat → Int32 → Int32 → Int32 → Int32 → Int32 → Int64 → Int32 → sv_H → Option (Unit × sv_H)} (hk80 : ∀ {x0 : Nat} {x2 : Int32} {x3 : Int32} {x4 : Int32} {x5 : Int32} {x6 : Int32} {x7 : Int64} {x9 : Int32} {h : sv_H}, k80 x0 x2 x3 x4 x5 x6 x7 x9 h = some (r, hE) → ∀ {H : Heap} {locs : List Loc} {ls : Array Slot}, sv_R G vwCl sv_ft B h H → va_S (fun q => B ≤ q) s.heap H locs → lv_has ls 17 [(0, .ref x0), (2, .int x2), (3, .int x3), (4, .int x4), (5, .int x5), (6, .int x6), (7, .long x7), (9, .int x9)] → W p l e rm_X17_flat s m args below meth c H locs 0 0 (sv_Z below s args G B none hE) (F0 m 80 ls [])) {x0 : Nat} {x2 : Int32} {x3 : Int32} {x4 : Int32} {x5 : Int32} {x6 : Int32} {x7 : Int64} {x9 : Int32} {x10 : Int64} {x12 : Int32} {x13 : Int64} {x15 : Int64} {s0 : Nat} {s1 : Int32} {s2 : Int32} {s3 : Int32} {h : sv_H} (hw : fn_X17_flat_221 k80 x0 x2 x3 x4 x5 x6 x7 x9 x10 x12 x13 x15 s0 s1 s2 s3 h = some (r, hE)) {H : Heap} {locs : List Loc} {ls : Array Slot} (hR : sv_R G vwCl sv_ft B h H) (hS : va_S (fun q => B ≤ q) s.heap H locs) (hl : lv_has ls 17 [(0, .ref x0), (2, .int x2), (3, .int x3), (4, .int x4), (5, .int x5), (6, .int x6), (7, .long x7), (9, .int x9), (10, .long x10), (12, .int x12), (13, .long x13), (15, .long x15)]) : W p l e rm_X17_flat s m args below meth c H locs 0 0 (sv_Z below s args G B none hE) (F0 m 221 ls [.int s3, .int s2, .int s1, .ref s0]) := by
  obtain ⟨hx, hb, hml, hown, hts, hC, hlk, hr, hBs, hni⟩ := id K
  unfold fn_X17_flat_221 at hw
  refine lv_imul hx hb dX17_flat_221 ?_
  refine lv_iload hx hb dX17_flat_222 (lv_at hl 3 rfl) ?_
  refine lv_iadd hx hb dX17_flat_224 ?_
  obtain ⟨h1, hv, hw⟩ := sv_bd hw
  refine sv_rsI hx hb hC.1 rfl hR hS hv dX17_flat_225 (fun H locs hR hS => ?_)
  refine lv_aload_n hx hb dX17_flat_226 rfl (lv_at hl 0 rfl) ?_
  obtain ⟨v2, hv, hw⟩ := sv_bd hw
  refine sv_rgP hx hb hown hC.1 hR (fl_X17_flat_54 hts hC hni) rfl (by decide) rfl rfl hv dX17_flat_227 ?_
  refine lv_iload hx hb dX17_flat_230 (lv_at hl 7 rfl) ?_
  refine lv_iload hx hb dX17_flat_232 (lv_at hl 5 rfl) ?_
  refine lv_if_eq (tgt := 253) hx hb dX17_flat_234 (by decide) (fun cc => ?_) (fun cc => ?_)
  · have hw := sv_ift cc hw
    refine lv_bipush (v := 16) hx hb dX17_flat_253 (by decide) ?_
    refine lv_aload_n hx hb dX17_flat_255 rfl (lv_at hl 0 rfl) ?_
    refine lv_iload hx hb dX17_flat_256 (lv_at hl 4 rfl) ?_
    refine lv_lload hx hb dX17_flat_258 (lv_at hl 10 rfl) ?_
    refine lv_lload hx hb dX17_flat_260 (lv_at hl 11 rfl) ?_
    obtain ⟨r3, h4, hv1, hw⟩ := sv_b_some hw
    refine sv_call (va_runV (As := [.int x5, .long x13, .long x15]) (rest := [.int 16, .int x9, .ref v2]) ⟨hx, hb, hml, hown, hts⟩ (mt_X17_texel l G B hv1) (cwV 3 hts (sv_gV wd_2079 wd_2081 wd_98 wd_144 wd_2082) rfl rfl rfl (by decide +kernel) ⟨Nat.le_of_ble_eq_true rfl, Nat.le_of_ble_eq_true rfl⟩) ⟨sv_blind, sv_recv hC.1 hR (ci := 17) (sv_go hv1).1 (by decide) rfl, fun U hU hW => sv_pre hC hR hS hBs hU hW⟩ rfl rfl hl.1 rfl (lv_room (Nat.le_of_ble_eq_true rfl)) dX17_flat_262 ⟨Nat.zero_le _, Nat.zero_le _⟩) hS (fun H locs hR hS => ?_)
    refine lv_imul hx hb dX17_flat_265 ?_
    refine lv_aload_n hx hb dX17_flat_266 rfl (lv_at hl 0 rfl) ?_
    refine lv_iload hx hb dX17_flat_267 (lv_at hl 3 rfl) ?_
    refine lv_iload hx hb dX17_flat_269 (lv_at hl 9 rfl) ?_
    refine lv_if_eq (tgt := 288) hx hb dX17_flat_271 (by decide) (fun cc => ?_) (fun cc => ?_)
    · have hw := sv_ift cc hw
      refine lv_lconst (v := 0) hx hb dX17_flat_288 (by decide) ?_
      exact lk_X17_flat_289 K hk80 hw hR hS (lv_sub hl [0, 1, 2, 3, 4, 5, 6, 7] rfl)
    · have hw := sv_iff cc hw
      refine lv_ldc2 (v := 64) hx hb hown (hts _ wd_2023) dX17_flat_274 ?_
      refine lv_lload hx hb dX17_flat_277 (lv_at hl 6 rfl) ?_
      refine lv_lmul hx hb dX17_flat_279 ?_
      refine lv_lload hx hb dX17_flat_280 (lv_at hl 8 rfl) ?_
      obtain ⟨r5, h6, hv2, hw⟩ := sv_b_some hw
      refine sv_call (va_runS (As := [.long (64 * x7), .long x10]) (rest := [.int x4, .ref x0, .int (16 * r3), .int x9, .ref v2]) ⟨hx, hb, hml, hown, hts⟩ (mt_X17_down l G B hv2) (va_cwS 2 hts (sv_gS wd_2072 wd_2073 wd_144 wd_2074) rfl rfl rfl (by decide +kernel) ⟨Nat.le_of_ble_eq_true rfl, Nat.le_of_ble_eq_true rfl⟩) ⟨sv_blind, fun U hU hW => sv_pre hC hR hS hBs hU hW⟩ rfl rfl hl.1 rfl (lv_room (Nat.le_of_ble_eq_true rfl)) dX17_flat_282 ⟨Nat.zero_le _, Nat.zero_le _⟩) hS (fun H locs hR hS => ?_)
      refine lv_goto (tgt := 289) hx hb dX17_flat_285 (by decide) ?_
      exact lk_X17_flat_289 K hk80 hw hR hS (lv_sub hl [0, 1, 2, 3, 4, 5, 6, 7] rfl)
  · have hw := sv_iff cc hw
    refine lv_bipush (v := 16) hx hb dX17_flat_237 (by decide) ?_
    refine lv_bipush (v := 15) hx hb dX17_flat_239 (by decide) ?_
    refine lv_iload hx hb dX17_flat_241 (lv_at hl 7 rfl) ?_
    refine lv_iconst (v := 4) hx hb dX17_flat_243 (by decide) ?_
    refine lv_idiv hx hb dX17_flat_244 (by decide) ?_
    refine lv_isub hx hb dX17_flat_245 ?_
    refine lv_imul hx hb dX17_flat_246 ?_
    refine lv_bipush (v := 15) hx hb dX17_flat_247 (by decide) ?_
    refine lv_iadd hx hb dX17_flat_249 ?_
    refine lv_goto (tgt := 293) hx hb dX17_flat_250 (by decide) ?_
    exact lk_X17_flat_293 K hk80 hw hR hS (lv_sub hl [0, 1, 2, 3, 4, 5, 6, 7] rfl)
set_option maxHeartbeats 4000000 in
set_option maxRecDepth 100000 in
theorem lk_X17_flat_199 {p : Program} {l : Launch} {e : Env} {s : State} {m : MethodId} {args : Array Value} {below : List Frame} {meth : Method} {c : Code} {G : sv_G} {B : Nat} (K : sv_W p s m args meth c cX17_flat RX17 17 none G B "flat") {r : Unit} {hE : sv_H} {k80 : Nat → Int32 → Int32 → Int32 → Int32 → Int32 → Int64 → Int32 → sv_H → Option (Unit × sv_H)} (hk80 : ∀ {x0 : Nat} {x2 : Int32} {x3 : Int32} {x4 : Int32} {x5 : Int32} {x6 : Int32} {x7 : Int64} {x9 : Int32} {h : sv_H}, k80 x0 x2 x3 x4 x5 x6 x7 x9 h = some (r, hE) → ∀ {H : Heap} {locs : List Loc} {ls : Array Slot}, sv_R G vwCl sv_ft B h H → va_S (fun q => B ≤ q) s.heap H locs → lv_has ls 17 [(0, .ref x0), (2, .int x2), (3, .int x3), (4, .int x4), (5, .int x5), (6, .int x6), (7, .long x7), (9, .int x9)] → W p l e rm_X17_flat s m args below meth c H locs 0 0 (sv_Z below s args G B none hE) (F0 m 80 ls [])) {x0 : Nat} {x2 : Int32} {x3 : Int32} {x4 : Int32} {x5 : Int32} {x6 : Int32} {x7 : Int64} {x9 : Int32} {x10 : Int64} {x12 : Int32} {x13 : Int64} {s0 : Int64} {h : sv_H} (hw : fn_X17_flat_199 k80 x0 x2 x3 x4 x5 x6 x7 x9 x10 x12 x13 s0 h = some (r, hE)) {H : Heap} {locs : List Loc} {ls : Array Slot} (hR : sv_R G vwCl sv_ft B h H) (hS : va_S (fun q => B ≤ q) s.heap H locs) (hl : lv_has ls 17 [(0, .ref x0), (2, .int x2), (3, .int x3), (4, .int x4), (5, .int x5), (6, .int x6), (7, .long x7), (9, .int x9), (10, .long x10), (12, .int x12), (13, .long x13)]) : W p l e rm_X17_flat s m args below meth c H locs 0 0 (sv_Z below s args G B none hE) (F0 m 199 ls [.long s0]) := by
  obtain ⟨hx, hb, hml, hown, hts, hC, hlk, hr, hBs, hni⟩ := id K
  unfold fn_X17_flat_199 at hw
  refine lv_lstore (lv' := [(15, .long s0), (0, .ref x0), (2, .int x2), (3, .int x3), (4, .int x4), (5, .int x5), (6, .int x6), (7, .long x7), (9, .int x9), (10, .long x10), (12, .int x12), (13, .long x13)]) hx hb dX17_flat_199 hl (by decide) rfl (fun ls hl => ?_)
  refine lv_aload_n hx hb dX17_flat_201 rfl (lv_at hl 1 rfl) ?_
  obtain ⟨v1, hv, hw⟩ := sv_bd hw
  refine sv_rgP hx hb hown hC.1 hR (fl_X17_flat_51 hts hC hni) rfl (by decide) rfl rfl hv dX17_flat_202 ?_
  refine lv_iload hx hb dX17_flat_205 (lv_at hl 8 rfl) ?_
  refine lv_sipush (v := 256) hx hb dX17_flat_207 (by decide) ?_
  refine lv_iload hx hb dX17_flat_210 (lv_at hl 6 rfl) ?_
  refine lv_if_eq (tgt := 220) hx hb dX17_flat_212 (by decide) (fun cc => ?_) (fun cc => ?_)
  · have hw := sv_ift cc hw
    refine lv_iload_n hx hb dX17_flat_220 rfl (lv_at hl 3 rfl) ?_
    exact lk_X17_flat_221 K hk80 hw hR hS (lv_sub hl [1, 2, 3, 4, 5, 6, 7, 8, 9, 10, 11, 0] rfl)
  · have hw := sv_iff cc hw
    refine lv_bipush (v := 6) hx hb dX17_flat_215 (by decide) ?_
    refine lv_goto (tgt := 221) hx hb dX17_flat_217 (by decide) ?_
    exact lk_X17_flat_221 K hk80 hw hR hS (lv_sub hl [1, 2, 3, 4, 5, 6, 7, 8, 9, 10, 11, 0] rfl)
set_option maxHeartbeats 4000000 in
set_option maxRecDepth 100000 in
theorem lk_X17_flat_166 {p : Program} {l : Launch} {e : Env} {s : State} {m : MethodId} {args : Array Value} {below : List Frame} {meth : Method} {c : Code} {G : sv_G} {B : Nat} (K : sv_W p s m args meth c cX17_flat RX17 17 none G B "flat") {r : Unit} {hE : sv_H} {k80 : Nat → Int32 → Int32 → Int32 → Int32 → Int32 → Int64 → Int32 → sv_H → Option (Unit × sv_H)} (hk80 : ∀ {x0 : Nat} {x2 : Int32} {x3 : Int32} {x4 : Int32} {x5 : Int32} {x6 : Int32} {x7 : Int64} {x9 : Int32} {h : sv_H}, k80 x0 x2 x3 x4 x5 x6 x7 x9 h = some (r, hE) → ∀ {H : Heap} {locs : List Loc} {ls : Array Slot}, sv_R G vwCl sv_ft B h H → va_S (fun q => B ≤ q) s.heap H locs → lv_has ls 17 [(0, .ref x0), (2, .int x2), (3, .int x3), (4, .int x4), (5, .int x5), (6, .int x6), (7, .long x7), (9, .int x9)] → W p l e rm_X17_flat s m args below meth c H locs 0 0 (sv_Z below s args G B none hE) (F0 m 80 ls [])) {x0 : Nat} {x2 : Int32} {x3 : Int32} {x4 : Int32} {x5 : Int32} {x6 : Int32} {x7 : Int64} {x9 : Int32} {x10 : Int64} {x12 : Int32} {s0 : Int64} {h : sv_H} (hw : fn_X17_flat_166 k80 x0 x2 x3 x4 x5 x6 x7 x9 x10 x12 s0 h = some (r, hE)) {H : Heap} {locs : List Loc} {ls : Array Slot} (hR : sv_R G vwCl sv_ft B h H) (hS : va_S (fun q => B ≤ q) s.heap H locs) (hl : lv_has ls 17 [(0, .ref x0), (2, .int x2), (3, .int x3), (4, .int x4), (5, .int x5), (6, .int x6), (7, .long x7), (9, .int x9), (10, .long x10), (12, .int x12)]) : W p l e rm_X17_flat s m args below meth c H locs 0 0 (sv_Z below s args G B none hE) (F0 m 166 ls [.long s0]) := by
  obtain ⟨hx, hb, hml, hown, hts, hC, hlk, hr, hBs, hni⟩ := id K
  unfold fn_X17_flat_166 at hw
  refine lv_lstore (lv' := [(13, .long s0), (0, .ref x0), (2, .int x2), (3, .int x3), (4, .int x4), (5, .int x5), (6, .int x6), (7, .long x7), (9, .int x9), (10, .long x10), (12, .int x12)]) hx hb dX17_flat_166 hl (by decide) rfl (fun ls hl => ?_)
  refine lv_iload hx hb dX17_flat_168 (lv_at hl 10 rfl) ?_
  refine lv_if_eq (tgt := 194) hx hb dX17_flat_170 (by decide) (fun cc => ?_) (fun cc => ?_)
  · have hw := sv_ift cc hw
    refine lv_aload_n hx hb dX17_flat_194 rfl (lv_at hl 1 rfl) ?_
    obtain ⟨v1, hv, hw⟩ := sv_bd hw
    refine sv_rgI hx hb hown hC.1 hR (fl_X17_flat_185 hts hC hni) rfl (by decide) rfl rfl hv dX17_flat_195 ?_
    refine lv_i2l hx hb dX17_flat_198 rfl ?_
    exact lk_X17_flat_199 K hk80 hw hR hS (lv_sub hl [1, 2, 3, 4, 5, 6, 7, 8, 9, 10, 0] rfl)
  · have hw := sv_iff cc hw
    refine lv_aload_n hx hb dX17_flat_173 rfl (lv_at hl 1 rfl) ?_
    obtain ⟨v2, hv, hw⟩ := sv_bd hw
    refine sv_rgI hx hb hown hC.1 hR (fl_X17_flat_185 hts hC hni) rfl (by decide) rfl rfl hv dX17_flat_174 ?_
    refine lv_i2l hx hb dX17_flat_177 rfl ?_
    refine lv_aload_n hx hb dX17_flat_178 rfl (lv_at hl 1 rfl) ?_
    obtain ⟨v3, hv, hw⟩ := sv_bd hw
    refine sv_rgJ hx hb hown hC.1 hR (fl_X17_flat_179 hts hC hni) rfl (by decide) rfl rfl hv dX17_flat_179 ?_
    refine lv_lload hx hb dX17_flat_182 (lv_at hl 7 rfl) ?_
    refine lv_lmul hx hb dX17_flat_184 ?_
    refine lv_lload hx hb dX17_flat_185 (lv_at hl 9 rfl) ?_
    obtain ⟨r4, h5, hv1, hw⟩ := sv_b_some hw
    refine sv_call (va_runS (As := [.long (v3 * x7), .long x10]) (rest := [.long (Int32.toInt64 v2)]) ⟨hx, hb, hml, hown, hts⟩ (mt_X17_down l G B hv1) (va_cwS 2 hts (sv_gS wd_2072 wd_2073 wd_144 wd_2074) rfl rfl rfl (by decide +kernel) ⟨Nat.le_of_ble_eq_true rfl, Nat.le_of_ble_eq_true rfl⟩) ⟨sv_blind, fun U hU hW => sv_pre hC hR hS hBs hU hW⟩ rfl rfl hl.1 rfl (lv_room (Nat.le_of_ble_eq_true rfl)) dX17_flat_187 ⟨Nat.zero_le _, Nat.zero_le _⟩) hS (fun H locs hR hS => ?_)
    refine lv_ladd hx hb dX17_flat_190 ?_
    refine lv_goto (tgt := 199) hx hb dX17_flat_191 (by decide) ?_
    exact lk_X17_flat_199 K hk80 hw hR hS (lv_sub hl [1, 2, 3, 4, 5, 6, 7, 8, 9, 10, 0] rfl)
set_option maxHeartbeats 4000000 in
set_option maxRecDepth 100000 in
theorem lk_X17_flat_133 {p : Program} {l : Launch} {e : Env} {s : State} {m : MethodId} {args : Array Value} {below : List Frame} {meth : Method} {c : Code} {G : sv_G} {B : Nat} (K : sv_W p s m args meth c cX17_flat RX17 17 none G B "flat") {r : Unit} {hE : sv_H} {k80 : Nat → Int32 → Int32 → Int32 → Int32 → Int32 → Int64 → Int32 → sv_H → Option (Unit × sv_H)} (hk80 : ∀ {x0 : Nat} {x2 : Int32} {x3 : Int32} {x4 : Int32} {x5 : Int32} {x6 : Int32} {x7 : Int64} {x9 : Int32} {h : sv_H}, k80 x0 x2 x3 x4 x5 x6 x7 x9 h = some (r, hE) → ∀ {H : Heap} {locs : List Loc} {ls : Array Slot}, sv_R G vwCl sv_ft B h H → va_S (fun q => B ≤ q) s.heap H locs → lv_has ls 17 [(0, .ref x0), (2, .int x2), (3, .int x3), (4, .int x4), (5, .int x5), (6, .int x6), (7, .long x7), (9, .int x9)] → W p l e rm_X17_flat s m args below meth c H locs 0 0 (sv_Z below s args G B none hE) (F0 m 80 ls [])) {x0 : Nat} {x2 : Int32} {x3 : Int32} {x4 : Int32} {x5 : Int32} {x6 : Int32} {x7 : Int64} {x9 : Int32} {x10 : Int64} {s0 : Int32} {h : sv_H} (hw : fn_X17_flat_133 k80 x0 x2 x3 x4 x5 x6 x7 x9 x10 s0 h = some (r, hE)) {H : Heap} {locs : List Loc} {ls : Array Slot} (hR : sv_R G vwCl sv_ft B h H) (hS : va_S (fun q => B ≤ q) s.heap H locs) (hl : lv_has ls 17 [(0, .ref x0), (2, .int x2), (3, .int x3), (4, .int x4), (5, .int x5), (6, .int x6), (7, .long x7), (9, .int x9), (10, .long x10)]) : W p l e rm_X17_flat s m args below meth c H locs 0 0 (sv_Z below s args G B none hE) (F0 m 133 ls [.int s0]) := by
  obtain ⟨hx, hb, hml, hown, hts, hC, hlk, hr, hBs, hni⟩ := id K
  unfold fn_X17_flat_133 at hw
  refine lv_istore (lv' := [(12, .int s0), (0, .ref x0), (2, .int x2), (3, .int x3), (4, .int x4), (5, .int x5), (6, .int x6), (7, .long x7), (9, .int x9), (10, .long x10)]) hx hb dX17_flat_133 hl (by decide) rfl (fun ls hl => ?_)
  refine lv_iload hx hb dX17_flat_135 (lv_at hl 0 rfl) ?_
  refine lv_if_eq (tgt := 161) hx hb dX17_flat_137 (by decide) (fun cc => ?_) (fun cc => ?_)
  · have hw := sv_ift cc hw
    refine lv_aload_n hx hb dX17_flat_161 rfl (lv_at hl 1 rfl) ?_
    obtain ⟨v1, hv, hw⟩ := sv_bd hw
    refine sv_rgI hx hb hown hC.1 hR (fl_X17_flat_182 hts hC hni) rfl (by decide) rfl rfl hv dX17_flat_162 ?_
    refine lv_i2l hx hb dX17_flat_165 rfl ?_
    exact lk_X17_flat_166 K hk80 hw hR hS (lv_sub hl [1, 2, 3, 4, 5, 6, 7, 8, 9, 0] rfl)
  · have hw := sv_iff cc hw
    refine lv_aload_n hx hb dX17_flat_140 rfl (lv_at hl 1 rfl) ?_
    obtain ⟨v2, hv, hw⟩ := sv_bd hw
    refine sv_rgI hx hb hown hC.1 hR (fl_X17_flat_182 hts hC hni) rfl (by decide) rfl rfl hv dX17_flat_141 ?_
    refine lv_i2l hx hb dX17_flat_144 rfl ?_
    refine lv_aload_n hx hb dX17_flat_145 rfl (lv_at hl 1 rfl) ?_
    obtain ⟨v3, hv, hw⟩ := sv_bd hw
    refine sv_rgJ hx hb hown hC.1 hR (fl_X17_flat_175 hts hC hni) rfl (by decide) rfl rfl hv dX17_flat_146 ?_
    refine lv_lload hx hb dX17_flat_149 (lv_at hl 7 rfl) ?_
    refine lv_lmul hx hb dX17_flat_151 ?_
    refine lv_lload hx hb dX17_flat_152 (lv_at hl 9 rfl) ?_
    obtain ⟨r4, h5, hv1, hw⟩ := sv_b_some hw
    refine sv_call (va_runS (As := [.long (v3 * x7), .long x10]) (rest := [.long (Int32.toInt64 v2)]) ⟨hx, hb, hml, hown, hts⟩ (mt_X17_down l G B hv1) (va_cwS 2 hts (sv_gS wd_2072 wd_2073 wd_144 wd_2074) rfl rfl rfl (by decide +kernel) ⟨Nat.le_of_ble_eq_true rfl, Nat.le_of_ble_eq_true rfl⟩) ⟨sv_blind, fun U hU hW => sv_pre hC hR hS hBs hU hW⟩ rfl rfl hl.1 rfl (lv_room (Nat.le_of_ble_eq_true rfl)) dX17_flat_154 ⟨Nat.zero_le _, Nat.zero_le _⟩) hS (fun H locs hR hS => ?_)
    refine lv_ladd hx hb dX17_flat_157 ?_
    refine lv_goto (tgt := 166) hx hb dX17_flat_158 (by decide) ?_
    exact lk_X17_flat_166 K hk80 hw hR hS (lv_sub hl [1, 2, 3, 4, 5, 6, 7, 8, 9, 0] rfl)
set_option maxHeartbeats 4000000 in
set_option maxRecDepth 100000 in
theorem lk_X17_flat_132 {p : Program} {l : Launch} {e : Env} {s : State} {m : MethodId} {args : Array Value} {below : List Frame} {meth : Method} {c : Code} {G : sv_G} {B : Nat} (K : sv_W p s m args meth c cX17_flat RX17 17 none G B "flat") {r : Unit} {hE : sv_H} {k80 : Nat → Int32 → Int32 → Int32 → Int32 → Int32 → Int64 → Int32 → sv_H → Option (Unit × sv_H)} (hk80 : ∀ {x0 : Nat} {x2 : Int32} {x3 : Int32} {x4 : Int32} {x5 : Int32} {x6 : Int32} {x7 : Int64} {x9 : Int32} {h : sv_H}, k80 x0 x2 x3 x4 x5 x6 x7 x9 h = some (r, hE) → ∀ {H : Heap} {locs : List Loc} {ls : Array Slot}, sv_R G vwCl sv_ft B h H → va_S (fun q => B ≤ q) s.heap H locs → lv_has ls 17 [(0, .ref x0), (2, .int x2), (3, .int x3), (4, .int x4), (5, .int x5), (6, .int x6), (7, .long x7), (9, .int x9)] → W p l e rm_X17_flat s m args below meth c H locs 0 0 (sv_Z below s args G B none hE) (F0 m 80 ls [])) {x0 : Nat} {x2 : Int32} {x3 : Int32} {x4 : Int32} {x5 : Int32} {x6 : Int32} {x7 : Int64} {x9 : Int32} {x10 : Int64} {h : sv_H} (hw : fn_X17_flat_132 k80 x0 x2 x3 x4 x5 x6 x7 x9 x10 h = some (r, hE)) {H : Heap} {locs : List Loc} {ls : Array Slot} (hR : sv_R G vwCl sv_ft B h H) (hS : va_S (fun q => B ≤ q) s.heap H locs) (hl : lv_has ls 17 [(0, .ref x0), (2, .int x2), (3, .int x3), (4, .int x4), (5, .int x5), (6, .int x6), (7, .long x7), (9, .int x9), (10, .long x10)]) : W p l e rm_X17_flat s m args below meth c H locs 0 0 (sv_Z below s args G B none hE) (F0 m 132 ls []) := by
  obtain ⟨hx, hb, hml, hown, hts, hC, hlk, hr, hBs, hni⟩ := id K
  unfold fn_X17_flat_132 at hw
  refine lv_iconst (v := 0) hx hb dX17_flat_132 (by decide) ?_
  exact lk_X17_flat_133 K hk80 hw hR hS (lv_sub hl [0, 1, 2, 3, 4, 5, 6, 7, 8] rfl)
set_option maxHeartbeats 4000000 in
set_option maxRecDepth 100000 in
theorem lk_X17_flat_128 {p : Program} {l : Launch} {e : Env} {s : State} {m : MethodId} {args : Array Value} {below : List Frame} {meth : Method} {c : Code} {G : sv_G} {B : Nat} (K : sv_W p s m args meth c cX17_flat RX17 17 none G B "flat") {r : Unit} {hE : sv_H} {k80 : Nat → Int32 → Int32 → Int32 → Int32 → Int32 → Int64 → Int32 → sv_H → Option (Unit × sv_H)} (hk80 : ∀ {x0 : Nat} {x2 : Int32} {x3 : Int32} {x4 : Int32} {x5 : Int32} {x6 : Int32} {x7 : Int64} {x9 : Int32} {h : sv_H}, k80 x0 x2 x3 x4 x5 x6 x7 x9 h = some (r, hE) → ∀ {H : Heap} {locs : List Loc} {ls : Array Slot}, sv_R G vwCl sv_ft B h H → va_S (fun q => B ≤ q) s.heap H locs → lv_has ls 17 [(0, .ref x0), (2, .int x2), (3, .int x3), (4, .int x4), (5, .int x5), (6, .int x6), (7, .long x7), (9, .int x9)] → W p l e rm_X17_flat s m args below meth c H locs 0 0 (sv_Z below s args G B none hE) (F0 m 80 ls [])) {x0 : Nat} {x2 : Int32} {x3 : Int32} {x4 : Int32} {x5 : Int32} {x6 : Int32} {x7 : Int64} {x9 : Int32} {x10 : Int64} {h : sv_H} (hw : fn_X17_flat_128 k80 x0 x2 x3 x4 x5 x6 x7 x9 x10 h = some (r, hE)) {H : Heap} {locs : List Loc} {ls : Array Slot} (hR : sv_R G vwCl sv_ft B h H) (hS : va_S (fun q => B ≤ q) s.heap H locs) (hl : lv_has ls 17 [(0, .ref x0), (2, .int x2), (3, .int x3), (4, .int x4), (5, .int x5), (6, .int x6), (7, .long x7), (9, .int x9), (10, .long x10)]) : W p l e rm_X17_flat s m args below meth c H locs 0 0 (sv_Z below s args G B none hE) (F0 m 128 ls []) := by
  obtain ⟨hx, hb, hml, hown, hts, hC, hlk, hr, hBs, hni⟩ := id K
  unfold fn_X17_flat_128 at hw
  refine lv_iconst (v := 1) hx hb dX17_flat_128 (by decide) ?_
  refine lv_goto (tgt := 133) hx hb dX17_flat_129 (by decide) ?_
  exact lk_X17_flat_133 K hk80 hw hR hS (lv_sub hl [0, 1, 2, 3, 4, 5, 6, 7, 8] rfl)
set_option maxHeartbeats 4000000 in
set_option maxRecDepth 100000 in
theorem lk_X17_flat_114 {p : Program} {l : Launch} {e : Env} {s : State} {m : MethodId} {args : Array Value} {below : List Frame} {meth : Method} {c : Code} {G : sv_G} {B : Nat} (K : sv_W p s m args meth c cX17_flat RX17 17 none G B "flat") {r : Unit} {hE : sv_H} {k80 : Nat → Int32 → Int32 → Int32 → Int32 → Int32 → Int64 → Int32 → sv_H → Option (Unit × sv_H)} (hk80 : ∀ {x0 : Nat} {x2 : Int32} {x3 : Int32} {x4 : Int32} {x5 : Int32} {x6 : Int32} {x7 : Int64} {x9 : Int32} {h : sv_H}, k80 x0 x2 x3 x4 x5 x6 x7 x9 h = some (r, hE) → ∀ {H : Heap} {locs : List Loc} {ls : Array Slot}, sv_R G vwCl sv_ft B h H → va_S (fun q => B ≤ q) s.heap H locs → lv_has ls 17 [(0, .ref x0), (2, .int x2), (3, .int x3), (4, .int x4), (5, .int x5), (6, .int x6), (7, .long x7), (9, .int x9)] → W p l e rm_X17_flat s m args below meth c H locs 0 0 (sv_Z below s args G B none hE) (F0 m 80 ls [])) {x0 : Nat} {x2 : Int32} {x3 : Int32} {x4 : Int32} {x5 : Int32} {x6 : Int32} {x7 : Int64} {x9 : Int32} {x10 : Int64} {h : sv_H} (hw : fn_X17_flat_114 k80 x0 x2 x3 x4 x5 x6 x7 x9 x10 h = some (r, hE)) {H : Heap} {locs : List Loc} {ls : Array Slot} (hR : sv_R G vwCl sv_ft B h H) (hS : va_S (fun q => B ≤ q) s.heap H locs) (hl : lv_has ls 17 [(0, .ref x0), (2, .int x2), (3, .int x3), (4, .int x4), (5, .int x5), (6, .int x6), (7, .long x7), (9, .int x9), (10, .long x10)]) : W p l e rm_X17_flat s m args below meth c H locs 0 0 (sv_Z below s args G B none hE) (F0 m 114 ls []) := by
  obtain ⟨hx, hb, hml, hown, hts, hC, hlk, hr, hBs, hni⟩ := id K
  unfold fn_X17_flat_114 at hw
  refine lv_lload hx hb dX17_flat_114 (lv_at hl 6 rfl) ?_
  refine lv_lconst (v := 0) hx hb dX17_flat_116 (by decide) ?_
  refine W.lcmp hx hb dX17_flat_117 ?_
  refine lv_if_ge (tgt := 132) hx hb dX17_flat_118 (by decide) (fun cc => ?_) (fun cc => ?_)
  · have hw := sv_ift cc hw
    exact lk_X17_flat_132 K hk80 hw hR hS (lv_sub hl [0, 1, 2, 3, 4, 5, 6, 7, 8] rfl)
  · have hw := sv_iff cc hw
    refine lv_lload hx hb dX17_flat_121 (lv_at hl 8 rfl) ?_
    refine lv_lconst (v := 0) hx hb dX17_flat_123 (by decide) ?_
    refine W.lcmp hx hb dX17_flat_124 ?_
    refine lv_if_ge (tgt := 132) hx hb dX17_flat_125 (by decide) (fun cc => ?_) (fun cc => ?_)
    · have hw := sv_ift cc hw
      exact lk_X17_flat_132 K hk80 hw hR hS (lv_sub hl [0, 1, 2, 3, 4, 5, 6, 7, 8] rfl)
    · have hw := sv_iff cc hw
      exact lk_X17_flat_128 K hk80 hw hR hS (lv_sub hl [0, 1, 2, 3, 4, 5, 6, 7, 8] rfl)
set_option maxHeartbeats 4000000 in
set_option maxRecDepth 100000 in
theorem lk_X17_flat_80b {p : Program} {l : Launch} {e : Env} {s : State} {m : MethodId} {args : Array Value} {below : List Frame} {meth : Method} {c : Code} {G : sv_G} {B : Nat} (K : sv_W p s m args meth c cX17_flat RX17 17 none G B "flat") {r : Unit} {hE : sv_H} {k80 : Nat → Int32 → Int32 → Int32 → Int32 → Int32 → Int64 → Int32 → sv_H → Option (Unit × sv_H)} (hk80 : ∀ {x0 : Nat} {x2 : Int32} {x3 : Int32} {x4 : Int32} {x5 : Int32} {x6 : Int32} {x7 : Int64} {x9 : Int32} {h : sv_H}, k80 x0 x2 x3 x4 x5 x6 x7 x9 h = some (r, hE) → ∀ {H : Heap} {locs : List Loc} {ls : Array Slot}, sv_R G vwCl sv_ft B h H → va_S (fun q => B ≤ q) s.heap H locs → lv_has ls 17 [(0, .ref x0), (2, .int x2), (3, .int x3), (4, .int x4), (5, .int x5), (6, .int x6), (7, .long x7), (9, .int x9)] → W p l e rm_X17_flat s m args below meth c H locs 0 0 (sv_Z below s args G B none hE) (F0 m 80 ls [])) {x0 : Nat} {x2 : Int32} {x3 : Int32} {x4 : Int32} {x5 : Int32} {x6 : Int32} {x7 : Int64} {x9 : Int32} {h : sv_H} (hw : fn_X17_flat_80b k80 x0 x2 x3 x4 x5 x6 x7 x9 h = some (r, hE)) {H : Heap} {locs : List Loc} {ls : Array Slot} (hR : sv_R G vwCl sv_ft B h H) (hS : va_S (fun q => B ≤ q) s.heap H locs) (hl : lv_has ls 17 [(0, .ref x0), (2, .int x2), (3, .int x3), (4, .int x4), (5, .int x5), (6, .int x6), (7, .long x7), (9, .int x9)]) : W p l e rm_X17_flat s m args below meth c H locs 0 0 (sv_Z below s args G B none hE) (F0 m 80 ls []) := by
  obtain ⟨hx, hb, hml, hown, hts, hC, hlk, hr, hBs, hni⟩ := id K
  unfold fn_X17_flat_80b at hw
  refine lv_iload hx hb dX17_flat_80 (lv_at hl 7 rfl) ?_
  refine lv_iload_n hx hb dX17_flat_82 rfl (lv_at hl 1 rfl) ?_
  refine lv_icmp_ge (tgt := 300) hx hb dX17_flat_83 (by decide) (fun cc => ?_) (fun cc => ?_)
  · have hw := sv_ift cc hw
    obtain ⟨rfl, rfl⟩ := sv_ret hw
    exact W.vret hx hb hr (fun t ht hW => ⟨⟨rfl, by rw [ht]; exact hR⟩, hS.F ht⟩) hS.2.2 dX17_flat_300
  · have hw := sv_iff cc hw
    refine lv_bipush (v := 47) hx hb dX17_flat_86 (by decide) ?_
    refine lv_iconst (v := 2) hx hb dX17_flat_88 (by decide) ?_
    refine lv_iload hx hb dX17_flat_89 (lv_at hl 7 rfl) ?_
    refine lv_imul hx hb dX17_flat_91 ?_
    refine lv_isub hx hb dX17_flat_92 ?_
    refine lv_sipush (v := 256) hx hb dX17_flat_93 (by decide) ?_
    refine lv_imul hx hb dX17_flat_96 ?_
    refine lv_i2l hx hb dX17_flat_97 rfl ?_
    refine lv_lstore (lv' := [(10, .long (Int32.toInt64 ((47 - (2 * x9)) * 256))), (0, .ref x0), (2, .int x2), (3, .int x3), (4, .int x4), (5, .int x5), (6, .int x6), (7, .long x7), (9, .int x9)]) hx hb dX17_flat_98 hl (by decide) rfl (fun ls hl => ?_)
    refine lv_lload hx hb dX17_flat_100 (lv_at hl 7 rfl) ?_
    refine lv_lconst (v := 0) hx hb dX17_flat_102 (by decide) ?_
    refine W.lcmp hx hb dX17_flat_103 ?_
    refine lv_if_le (tgt := 114) hx hb dX17_flat_104 (by decide) (fun cc => ?_) (fun cc => ?_)
    · have hw := sv_ift cc hw
      exact lk_X17_flat_114 K hk80 hw hR hS (lv_sub hl [1, 2, 3, 4, 5, 6, 7, 8, 0] rfl)
    · have hw := sv_iff cc hw
      refine lv_lload hx hb dX17_flat_107 (lv_at hl 0 rfl) ?_
      refine lv_lconst (v := 0) hx hb dX17_flat_109 (by decide) ?_
      refine W.lcmp hx hb dX17_flat_110 ?_
      refine lv_if_gt (tgt := 128) hx hb dX17_flat_111 (by decide) (fun cc => ?_) (fun cc => ?_)
      · have hw := sv_ift cc hw
        exact lk_X17_flat_128 K hk80 hw hR hS (lv_sub hl [1, 2, 3, 4, 5, 6, 7, 8, 0] rfl)
      · have hw := sv_iff cc hw
        exact lk_X17_flat_114 K hk80 hw hR hS (lv_sub hl [1, 2, 3, 4, 5, 6, 7, 8, 0] rfl)
theorem lk_X17_flat_80 {p : Program} {l : Launch} {e : Env} {s : State} {m : MethodId} {args : Array Value} {below : List Frame} {meth : Method} {c : Code} {G : sv_G} {B : Nat} (K : sv_W p s m args meth c cX17_flat RX17 17 none G B "flat") {r : Unit} {hE : sv_H} : ∀ (n : Nat) {x0 : Nat} {x2 : Int32} {x3 : Int32} {x4 : Int32} {x5 : Int32} {x6 : Int32} {x7 : Int64} {x9 : Int32} {h : sv_H}, fn_X17_flat_80 n x0 x2 x3 x4 x5 x6 x7 x9 h = some (r, hE) → ∀ {H : Heap} {locs : List Loc} {ls : Array Slot}, sv_R G vwCl sv_ft B h H → va_S (fun q => B ≤ q) s.heap H locs → lv_has ls 17 [(0, .ref x0), (2, .int x2), (3, .int x3), (4, .int x4), (5, .int x5), (6, .int x6), (7, .long x7), (9, .int x9)] → W p l e rm_X17_flat s m args below meth c H locs 0 0 (sv_Z below s args G B none hE) (F0 m 80 ls []) := by
  intro n
  induction n with
  | zero => intro x0 x2 x3 x4 x5 x6 x7 x9 h hw; cases (show (none : Option (Unit × sv_H)) = some (r, hE) from hw)
  | succ n ih => intro x0 x2 x3 x4 x5 x6 x7 x9 h hw H locs ls hR hS hl; exact lk_X17_flat_80b K (fun hw => ih hw) hw hR hS hl
set_option maxHeartbeats 4000000 in
set_option maxRecDepth 100000 in
theorem lk_X17_flat_69 {p : Program} {l : Launch} {e : Env} {s : State} {m : MethodId} {args : Array Value} {below : List Frame} {meth : Method} {c : Code} {G : sv_G} {B : Nat} (K : sv_W p s m args meth c cX17_flat RX17 17 none G B "flat") {r : Unit} {hE : sv_H} {x0 : Nat} {x1 : Int32} {x2 : Int32} {x3 : Int32} {x4 : Int32} {x5 : Int32} {x6 : Int32} {s0 : Int32} {h : sv_H} (hw : fn_X17_flat_69 x0 x1 x2 x3 x4 x5 x6 s0 h = some (r, hE)) {H : Heap} {locs : List Loc} {ls : Array Slot} (hR : sv_R G vwCl sv_ft B h H) (hS : va_S (fun q => B ≤ q) s.heap H locs) (hl : lv_has ls 17 [(0, .ref x0), (1, .int x1), (2, .int x2), (3, .int x3), (4, .int x4), (5, .int x5), (6, .int x6)]) : W p l e rm_X17_flat s m args below meth c H locs 0 0 (sv_Z below s args G B none hE) (F0 m 69 ls [.int s0]) := by
  obtain ⟨hx, hb, hml, hown, hts, hC, hlk, hr, hBs, hni⟩ := id K
  unfold fn_X17_flat_69 at hw
  refine lv_aload_n hx hb dX17_flat_69 rfl (lv_at hl 0 rfl) ?_
  obtain ⟨r1, h2, hv1, hw⟩ := sv_b_some hw
  refine sv_call (va_runV (As := []) (rest := [.int s0]) ⟨hx, hb, hml, hown, hts⟩ (mt_X17_eye l G B hv1) (cwV 0 hts (sv_gV wd_2067 wd_2069 wd_96 wd_144 wd_2070) rfl rfl rfl (by decide +kernel) ⟨Nat.le_of_ble_eq_true rfl, Nat.le_of_ble_eq_true rfl⟩) ⟨sv_blind, sv_recv hC.1 hR (ci := 17) (sv_go hv1).1 (by decide) rfl, fun U hU hW => sv_pre hC hR hS hBs hU hW⟩ rfl rfl hl.1 rfl (lv_room (Nat.le_of_ble_eq_true rfl)) dX17_flat_70 ⟨Nat.zero_le _, Nat.zero_le _⟩) hS (fun H locs hR hS => ?_)
  refine lv_isub hx hb dX17_flat_73 ?_
  refine lv_i2l hx hb dX17_flat_74 rfl ?_
  refine lv_lstore (lv' := [(7, .long (Int32.toInt64 (s0 - r1))), (0, .ref x0), (1, .int x1), (2, .int x2), (3, .int x3), (4, .int x4), (5, .int x5), (6, .int x6)]) hx hb dX17_flat_75 hl (by decide) rfl (fun ls hl => ?_)
  refine lv_iload_n hx hb dX17_flat_77 rfl (lv_at hl 2 rfl) ?_
  refine lv_istore (lv' := [(9, .int x1), (7, .long (Int32.toInt64 (s0 - r1))), (0, .ref x0), (1, .int x1), (2, .int x2), (3, .int x3), (4, .int x4), (5, .int x5), (6, .int x6)]) hx hb dX17_flat_78 hl (by decide) rfl (fun ls hl => ?_)
  exact lk_X17_flat_80 K sv_fuel hw hR hS (lv_sub hl [2, 4, 5, 6, 7, 8, 1, 0] rfl)
set_option maxHeartbeats 4000000 in
set_option maxRecDepth 100000 in
theorem lk_X17_flat_39 {p : Program} {l : Launch} {e : Env} {s : State} {m : MethodId} {args : Array Value} {below : List Frame} {meth : Method} {c : Code} {G : sv_G} {B : Nat} (K : sv_W p s m args meth c cX17_flat RX17 17 none G B "flat") {r : Unit} {hE : sv_H} {x0 : Nat} {x1 : Int32} {x2 : Int32} {x3 : Int32} {x4 : Int32} {x5 : Int32} {s0 : Int32} {h : sv_H} (hw : fn_X17_flat_39 x0 x1 x2 x3 x4 x5 s0 h = some (r, hE)) {H : Heap} {locs : List Loc} {ls : Array Slot} (hR : sv_R G vwCl sv_ft B h H) (hS : va_S (fun q => B ≤ q) s.heap H locs) (hl : lv_has ls 17 [(0, .ref x0), (1, .int x1), (2, .int x2), (3, .int x3), (4, .int x4), (5, .int x5)]) : W p l e rm_X17_flat s m args below meth c H locs 0 0 (sv_Z below s args G B none hE) (F0 m 39 ls [.int s0]) := by
  obtain ⟨hx, hb, hml, hown, hts, hC, hlk, hr, hBs, hni⟩ := id K
  unfold fn_X17_flat_39 at hw
  refine lv_istore (lv' := [(6, .int s0), (0, .ref x0), (1, .int x1), (2, .int x2), (3, .int x3), (4, .int x4), (5, .int x5)]) hx hb dX17_flat_39 hl (by decide) rfl (fun ls hl => ?_)
  refine lv_iload_n hx hb dX17_flat_41 rfl (lv_at hl 4 rfl) ?_
  refine lv_iconst (v := 1) hx hb dX17_flat_42 (by decide) ?_
  refine lv_icmp_ne (tgt := 59) hx hb dX17_flat_43 (by decide) (fun cc => ?_) (fun cc => ?_)
  · have hw := sv_iff cc hw
    refine lv_aload_n hx hb dX17_flat_59 rfl (lv_at hl 1 rfl) ?_
    obtain ⟨v1, hv, hw⟩ := sv_bd hw
    refine sv_rgP hx hb hown hC.1 hR (fl_X17_flat_26 hts hC hni) rfl (by decide) rfl rfl hv dX17_flat_60 ?_
    obtain ⟨v2, hv, hw⟩ := sv_bd hw
    refine sv_rgP hx hb hown hC.1 hR (fl_X17_flat_221 hts hC hni) rfl (by decide) rfl rfl hv dX17_flat_63 ?_
    refine lv_iload hx hb dX17_flat_66 (lv_at hl 5 rfl) ?_
    obtain ⟨v3, hv, hw⟩ := sv_bd hw
    refine sv_rlI hx hb hC.1 rfl hR hv dX17_flat_68 ?_
    exact lk_X17_flat_69 K hw hR hS (lv_sub hl [1, 2, 3, 4, 5, 6, 0] rfl)
  · have hw := sv_ift cc hw
    refine lv_aload_n hx hb dX17_flat_46 rfl (lv_at hl 1 rfl) ?_
    obtain ⟨v4, hv, hw⟩ := sv_bd hw
    refine sv_rgP hx hb hown hC.1 hR (fl_X17_flat_26 hts hC hni) rfl (by decide) rfl rfl hv dX17_flat_47 ?_
    obtain ⟨v5, hv, hw⟩ := sv_bd hw
    refine sv_rgP hx hb hown hC.1 hR (fl_X17_flat_247 hts hC hni) rfl (by decide) rfl rfl hv dX17_flat_50 ?_
    refine lv_iload hx hb dX17_flat_53 (lv_at hl 5 rfl) ?_
    obtain ⟨v6, hv, hw⟩ := sv_bd hw
    refine sv_rlI hx hb hC.1 rfl hR hv dX17_flat_55 ?_
    refine lv_goto (tgt := 69) hx hb dX17_flat_56 (by decide) ?_
    exact lk_X17_flat_69 K hw hR hS (lv_sub hl [1, 2, 3, 4, 5, 6, 0] rfl)
set_option maxHeartbeats 4000000 in
set_option maxRecDepth 100000 in
theorem lk_X17_flat_38 {p : Program} {l : Launch} {e : Env} {s : State} {m : MethodId} {args : Array Value} {below : List Frame} {meth : Method} {c : Code} {G : sv_G} {B : Nat} (K : sv_W p s m args meth c cX17_flat RX17 17 none G B "flat") {r : Unit} {hE : sv_H} {x0 : Nat} {x1 : Int32} {x2 : Int32} {x3 : Int32} {x4 : Int32} {x5 : Int32} {h : sv_H} (hw : fn_X17_flat_38 x0 x1 x2 x3 x4 x5 h = some (r, hE)) {H : Heap} {locs : List Loc} {ls : Array Slot} (hR : sv_R G vwCl sv_ft B h H) (hS : va_S (fun q => B ≤ q) s.heap H locs) (hl : lv_has ls 17 [(0, .ref x0), (1, .int x1), (2, .int x2), (3, .int x3), (4, .int x4), (5, .int x5)]) : W p l e rm_X17_flat s m args below meth c H locs 0 0 (sv_Z below s args G B none hE) (F0 m 38 ls []) := by
  obtain ⟨hx, hb, hml, hown, hts, hC, hlk, hr, hBs, hni⟩ := id K
  unfold fn_X17_flat_38 at hw
  refine lv_iconst (v := 0) hx hb dX17_flat_38 (by decide) ?_
  exact lk_X17_flat_39 K hw hR hS (lv_sub hl [0, 1, 2, 3, 4, 5] rfl)
set_option maxHeartbeats 4000000 in
set_option maxRecDepth 100000 in
theorem lk_X17_flat_16 {p : Program} {l : Launch} {e : Env} {s : State} {m : MethodId} {args : Array Value} {below : List Frame} {meth : Method} {c : Code} {G : sv_G} {B : Nat} (K : sv_W p s m args meth c cX17_flat RX17 17 none G B "flat") {r : Unit} {hE : sv_H} {x0 : Nat} {x1 : Int32} {x2 : Int32} {x3 : Int32} {x4 : Int32} {s0 : Nat} {s1 : Int32} {s2 : Int32} {h : sv_H} (hw : fn_X17_flat_16 x0 x1 x2 x3 x4 s0 s1 s2 h = some (r, hE)) {H : Heap} {locs : List Loc} {ls : Array Slot} (hR : sv_R G vwCl sv_ft B h H) (hS : va_S (fun q => B ≤ q) s.heap H locs) (hl : lv_has ls 17 [(0, .ref x0), (1, .int x1), (2, .int x2), (3, .int x3), (4, .int x4)]) : W p l e rm_X17_flat s m args below meth c H locs 0 0 (sv_Z below s args G B none hE) (F0 m 16 ls [.int s2, .int s1, .ref s0]) := by
  obtain ⟨hx, hb, hml, hown, hts, hC, hlk, hr, hBs, hni⟩ := id K
  unfold fn_X17_flat_16 at hw
  obtain ⟨r1, h2, hv1, hw⟩ := sv_b_some hw
  refine sv_call (va_runV (As := [.int s1, .int s2]) (rest := []) ⟨hx, hb, hml, hown, hts⟩ (mt_X14_sector l G B hv1) (cwV 2 hts (sv_gV wd_1886 wd_1887 wd_1888 wd_145 wd_1889) rfl rfl rfl (by decide +kernel) ⟨Nat.le_of_ble_eq_true rfl, Nat.le_of_ble_eq_true rfl⟩) ⟨sv_blind, sv_recv hC.1 hR (ci := 14) (sv_go hv1).1 (by decide) rfl, fun U hU hW => sv_pre hC hR hS hBs hU hW⟩ rfl rfl hl.1 rfl (lv_room (Nat.le_of_ble_eq_true rfl)) dX17_flat_16 ⟨Nat.zero_le _, Nat.zero_le _⟩) hS (fun H locs hR hS => ?_)
  refine lv_istore (lv' := [(5, .int r1), (0, .ref x0), (1, .int x1), (2, .int x2), (3, .int x3), (4, .int x4)]) hx hb dX17_flat_19 hl (by decide) rfl (fun ls hl => ?_)
  refine lv_iload_n hx hb dX17_flat_21 rfl (lv_at hl 4 rfl) ?_
  refine lv_iconst (v := 1) hx hb dX17_flat_22 (by decide) ?_
  refine lv_icmp_ne (tgt := 38) hx hb dX17_flat_23 (by decide) (fun cc => ?_) (fun cc => ?_)
  · have hw := sv_iff cc hw
    exact lk_X17_flat_38 K hw hR hS (lv_sub hl [1, 2, 3, 4, 5, 0] rfl)
  · have hw := sv_ift cc hw
    refine lv_iload hx hb dX17_flat_26 (lv_at hl 0 rfl) ?_
    refine lv_sipush (v := 255) hx hb dX17_flat_28 (by decide) ?_
    refine lv_icmp_ne (tgt := 38) hx hb dX17_flat_31 (by decide) (fun cc => ?_) (fun cc => ?_)
    · have hw := sv_iff cc hw
      exact lk_X17_flat_38 K hw hR hS (lv_sub hl [1, 2, 3, 4, 5, 0] rfl)
    · have hw := sv_ift cc hw
      refine lv_iconst (v := 1) hx hb dX17_flat_34 (by decide) ?_
      refine lv_goto (tgt := 39) hx hb dX17_flat_35 (by decide) ?_
      exact lk_X17_flat_39 K hw hR hS (lv_sub hl [1, 2, 3, 4, 5, 0] rfl)
set_option maxHeartbeats 4000000 in
set_option maxRecDepth 100000 in
theorem lk_X17_flat_0 {p : Program} {l : Launch} {e : Env} {s : State} {m : MethodId} {args : Array Value} {below : List Frame} {meth : Method} {c : Code} {G : sv_G} {B : Nat} (K : sv_W p s m args meth c cX17_flat RX17 17 none G B "flat") {r : Unit} {hE : sv_H} {x0 : Nat} {x1 : Int32} {x2 : Int32} {x3 : Int32} {x4 : Int32} {h : sv_H} (hw : fn_X17_flat x0 x1 x2 x3 x4 h = some (r, hE)) {H : Heap} {locs : List Loc} {ls : Array Slot} (hR : sv_R G vwCl sv_ft B h H) (hS : va_S (fun q => B ≤ q) s.heap H locs) (hl : lv_has ls 17 [(0, .ref x0), (1, .int x1), (2, .int x2), (3, .int x3), (4, .int x4)]) : W p l e rm_X17_flat s m args below meth c H locs 0 0 (sv_Z below s args G B none hE) (F0 m 0 ls []) := by
  obtain ⟨hx, hb, hml, hown, hts, hC, hlk, hr, hBs, hni⟩ := id K
  unfold fn_X17_flat at hw
  have hw := (sv_go hw).2
  refine lv_aload_n hx hb dX17_flat_0 rfl (lv_at hl 0 rfl) ?_
  obtain ⟨v1, hv, hw⟩ := sv_bd hw
  refine sv_rgP hx hb hown hC.1 hR (fl_X17_flat_10 hts hC hni) rfl (by decide) rfl rfl hv dX17_flat_1 ?_
  refine lv_iload hx hb dX17_flat_4 (lv_at hl 4 rfl) ?_
  refine lv_iload_n hx hb dX17_flat_6 rfl (lv_at hl 3 rfl) ?_
  refine lv_iconst (v := 1) hx hb dX17_flat_7 (by decide) ?_
  refine lv_icmp_ne (tgt := 15) hx hb dX17_flat_8 (by decide) (fun cc => ?_) (fun cc => ?_)
  · have hw := sv_iff cc hw
    refine lv_iconst (v := 2) hx hb dX17_flat_15 (by decide) ?_
    exact lk_X17_flat_16 K hw hR hS (lv_sub hl [0, 1, 2, 3, 4] rfl)
  · have hw := sv_ift cc hw
    refine lv_iconst (v := 3) hx hb dX17_flat_11 (by decide) ?_
    refine lv_goto (tgt := 16) hx hb dX17_flat_12 (by decide) ?_
    exact lk_X17_flat_16 K hw hR hS (lv_sub hl [0, 1, 2, 3, 4] rfl)
set_option maxHeartbeats 4000000 in
set_option maxRecDepth 100000 in
theorem mt_X17_flat (l : Launch) (G : sv_G) (B : Nat) {x0 : Nat} {x1 : Int32} {x2 : Int32} {x3 : Int32} {x4 : Int32} {h : sv_H} {r : Unit} {hE : sv_H} (hw : fn_X17_flat x0 x1 x2 x3 x4 h = some (r, hE)) : Met l yX17_flat (.code yX17_flat cX17_flat 17 none :: sv_tb) rm_X17_flat (sv_Pc G B [.ref x0, .int x1, .int x2, .int x3, .int x4] h) (sv_Q G B none hE) 0 0 (fun q => B ≤ q) := by
  refine Met.ofW (cc := cX17_flat) (maxL := 17) (ret := none) (by decide +kernel) rfl ?_
  intro p e s m args below meth c s₁ Bd hml hv
  obtain ⟨rfl, hR, hC, hB⟩ := hv
  have hl := lv_entry ([.ref x0, .int x1, .int x2, .int x3, .int x4]) (n := 17) (Nat.le_of_ble_eq_true rfl)
  rw [lg_entry_eq]
  generalize (lg_sl ([.ref x0, .int x1, .int x2, .int x3, .int x4]) ++ List.replicate (17 - (lg_sl ([.ref x0, .int x1, .int x2, .int x3, .int x4])).length) Slot.unset).toArray = ls at hl ⊢
  have hl : lv_has ls 17 [(0, .ref x0), (1, .int x1), (2, .int x2), (3, .int x3), (4, .int x4)] := hl
  exact lk_X17_flat_0 ⟨Bd.exec, Bd.bytes, hml, findClass_of_methodNamed Bd.named, fun w h => atoms_spec (ws := .code yX17_flat cX17_flat 17 none :: sv_tb) Bd.pre w (List.mem_cons_of_mem _ h), hC, Bd.notSynchronized, Bd.returns, hB, (name_of_methodNamed Bd.named Bd.method).1⟩ hw hR va_S.rf hl

def rm_X17_part : Room := { frames := 7, cells := 0, slots := 0, locals := 154 }
theorem fl_X17_part_198 {s : State} {meth : Method} {args : Array Value} {G : sv_G} {B : Nat} (hts : ∀ w ∈ sv_tb, w.before args s = true) (hC : sv_Cx G B s s.heap) (hni : meth.name = "part") : sv_FL s meth args vwCl RX17 198 17 17 .long true :=
  ⟨_, RX17, TX17, 29, sv_tb, tyX17, rfl, by decide, hts, uw_X17, Or.inl (hts _ wd_1708), fun _ h => h, tyX17_ok 17 (by decide), tyX17_ok, nmX17, fun _ => Or.inl rfl⟩
theorem fl_X17_part_201 {s : State} {meth : Method} {args : Array Value} {G : sv_G} {B : Nat} (hts : ∀ w ∈ sv_tb, w.before args s = true) (hC : sv_Cx G B s s.heap) (hni : meth.name = "part") : sv_FL s meth args vwCl RX17 201 17 18 .long true :=
  ⟨_, RX17, TX17, 29, sv_tb, tyX17, rfl, by decide, hts, uw_X17, Or.inl (hts _ wd_1709), fun _ h => h, tyX17_ok 18 (by decide), tyX17_ok, nmX17, fun _ => Or.inl rfl⟩
theorem fl_X17_part_51 {s : State} {meth : Method} {args : Array Value} {G : sv_G} {B : Nat} (hts : ∀ w ∈ sv_tb, w.before args s = true) (hC : sv_Cx G B s s.heap) (hni : meth.name = "part") : sv_FL s meth args vwCl RX17 51 17 24 (.array .int) false :=
  ⟨_, RX17, TX17, 29, sv_tb, tyX17, rfl, by decide, hts, uw_X17, Or.inl (hts _ wd_1715), fun _ h => h, tyX17_ok 24 (by decide), tyX17_ok, nmX17, fun h => by cases h⟩
theorem fl_X17_part_54 {s : State} {meth : Method} {args : Array Value} {G : sv_G} {B : Nat} (hts : ∀ w ∈ sv_tb, w.before args s = true) (hC : sv_Cx G B s s.heap) (hni : meth.name = "part") : sv_FL s meth args vwCl RX17 54 17 25 (.array .int) false :=
  ⟨_, RX17, TX17, 29, sv_tb, tyX17, rfl, by decide, hts, uw_X17, Or.inl (hts _ wd_1716), fun _ h => h, tyX17_ok 25 (by decide), tyX17_ok, nmX17, fun h => by cases h⟩
theorem fl_X17_part_204 {s : State} {meth : Method} {args : Array Value} {G : sv_G} {B : Nat} (hts : ∀ w ∈ sv_tb, w.before args s = true) (hC : sv_Cx G B s s.heap) (hni : meth.name = "part") : sv_FL s meth args vwCl RX17 204 17 19 .boolean true :=
  ⟨_, RX17, TX17, 29, sv_tb, tyX17, rfl, by decide, hts, uw_X17, Or.inl (hts _ wd_1710), fun _ h => h, tyX17_ok 19 (by decide), tyX17_ok, nmX17, fun _ => Or.inl rfl⟩
theorem fl_X17_part_195 {s : State} {meth : Method} {args : Array Value} {G : sv_G} {B : Nat} (hts : ∀ w ∈ sv_tb, w.before args s = true) (hC : sv_Cx G B s s.heap) (hni : meth.name = "part") : sv_FL s meth args vwCl RX17 195 17 16 .long true :=
  ⟨_, RX17, TX17, 29, sv_tb, tyX17, rfl, by decide, hts, uw_X17, Or.inl (hts _ wd_1707), fun _ h => h, tyX17_ok 16 (by decide), tyX17_ok, nmX17, fun _ => Or.inl rfl⟩
theorem fl_X17_part_192 {s : State} {meth : Method} {args : Array Value} {G : sv_G} {B : Nat} (hts : ∀ w ∈ sv_tb, w.before args s = true) (hC : sv_Cx G B s s.heap) (hni : meth.name = "part") : sv_FL s meth args vwCl RX17 192 17 15 .long true :=
  ⟨_, RX17, TX17, 29, sv_tb, tyX17, rfl, by decide, hts, uw_X17, Or.inl (hts _ wd_1706), fun _ h => h, tyX17_ok 15 (by decide), tyX17_ok, nmX17, fun _ => Or.inl rfl⟩
theorem fl_X17_part_33 {s : State} {meth : Method} {args : Array Value} {G : sv_G} {B : Nat} (hts : ∀ w ∈ sv_tb, w.before args s = true) (hC : sv_Cx G B s s.heap) (hni : meth.name = "part") : sv_FL s meth args vwCl RX17 33 17 4 (.object "SectorViewModel$Tree") false :=
  ⟨_, RX17, TX17, 29, sv_tb, tyX17, rfl, by decide, hts, uw_X17, Or.inl (hts _ wd_1695), fun _ h => h, tyX17_ok 4 (by decide), tyX17_ok, nmX17, fun h => by cases h⟩
theorem fl_X17_part_145 {s : State} {meth : Method} {args : Array Value} {G : sv_G} {B : Nat} (hts : ∀ w ∈ sv_tb, w.before args s = true) (hC : sv_Cx G B s s.heap) (hni : meth.name = "part") : sv_FL s meth args vwCl RX17 145 16 3 (.array .int) false :=
  ⟨_, RX16, TX16, 28, sv_tb, tyX16, rfl, by decide, hts, uw_X16, Or.inr ⟨"SectorViewModel", Or.inr ⟨rfl, va_Nw.use rfl (hC.2.1 (.fieldLinkNest "SectorViewModel" 145 "SectorViewModel$Tree" "bx" "[I" "SectorViewModel") (by decide +kernel))⟩⟩, fun _ h => h, tyX16_ok 3 (by decide), tyX16_ok, nmX16, fun h => by cases h⟩
theorem fl_X17_part_135 {s : State} {meth : Method} {args : Array Value} {G : sv_G} {B : Nat} (hts : ∀ w ∈ sv_tb, w.before args s = true) (hC : sv_Cx G B s s.heap) (hni : meth.name = "part") : sv_FL s meth args vwCl RX17 135 16 1 (.array .int) false :=
  ⟨_, RX16, TX16, 28, sv_tb, tyX16, rfl, by decide, hts, uw_X16, Or.inr ⟨"SectorViewModel", Or.inr ⟨rfl, va_Nw.use rfl (hC.2.1 (.fieldLinkNest "SectorViewModel" 135 "SectorViewModel$Tree" "ax" "[I" "SectorViewModel") (by decide +kernel))⟩⟩, fun _ h => h, tyX16_ok 1 (by decide), tyX16_ok, nmX16, fun h => by cases h⟩
theorem fl_X17_part_148 {s : State} {meth : Method} {args : Array Value} {G : sv_G} {B : Nat} (hts : ∀ w ∈ sv_tb, w.before args s = true) (hC : sv_Cx G B s s.heap) (hni : meth.name = "part") : sv_FL s meth args vwCl RX17 148 16 4 (.array .int) false :=
  ⟨_, RX16, TX16, 28, sv_tb, tyX16, rfl, by decide, hts, uw_X16, Or.inr ⟨"SectorViewModel", Or.inr ⟨rfl, va_Nw.use rfl (hC.2.1 (.fieldLinkNest "SectorViewModel" 148 "SectorViewModel$Tree" "by" "[I" "SectorViewModel") (by decide +kernel))⟩⟩, fun _ h => h, tyX16_ok 4 (by decide), tyX16_ok, nmX16, fun h => by cases h⟩
theorem fl_X17_part_142 {s : State} {meth : Method} {args : Array Value} {G : sv_G} {B : Nat} (hts : ∀ w ∈ sv_tb, w.before args s = true) (hC : sv_Cx G B s s.heap) (hni : meth.name = "part") : sv_FL s meth args vwCl RX17 142 16 2 (.array .int) false :=
  ⟨_, RX16, TX16, 28, sv_tb, tyX16, rfl, by decide, hts, uw_X16, Or.inr ⟨"SectorViewModel", Or.inr ⟨rfl, va_Nw.use rfl (hC.2.1 (.fieldLinkNest "SectorViewModel" 142 "SectorViewModel$Tree" "ay" "[I" "SectorViewModel") (by decide +kernel))⟩⟩, fun _ h => h, tyX16_ok 2 (by decide), tyX16_ok, nmX16, fun h => by cases h⟩
theorem fl_X17_part_26 {s : State} {meth : Method} {args : Array Value} {G : sv_G} {B : Nat} (hts : ∀ w ∈ sv_tb, w.before args s = true) (hC : sv_Cx G B s s.heap) (hni : meth.name = "part") : sv_FL s meth args vwCl RX17 26 17 3 (.object "SectorViewModel$Hall") false :=
  ⟨_, RX17, TX17, 29, sv_tb, tyX17, rfl, by decide, hts, uw_X17, Or.inl (hts _ wd_1694), fun _ h => h, tyX17_ok 3 (by decide), tyX17_ok, nmX17, fun h => by cases h⟩
theorem fl_X17_part_247 {s : State} {meth : Method} {args : Array Value} {G : sv_G} {B : Nat} (hts : ∀ w ∈ sv_tb, w.before args s = true) (hC : sv_Cx G B s s.heap) (hni : meth.name = "part") : sv_FL s meth args vwCl RX17 247 13 9 (.array .int) false :=
  ⟨_, RX13, TX13, 18, sv_tb, tyX13, rfl, by decide, hts, uw_X13, Or.inr ⟨"SectorViewModel", Or.inr ⟨rfl, va_Nw.use rfl (hC.2.1 (.fieldLinkNest "SectorViewModel" 247 "SectorViewModel$Hall" "ceilings" "[I" "SectorViewModel") (by decide +kernel))⟩⟩, fun _ h => h, tyX13_ok 9 (by decide), tyX13_ok, nmX13, fun h => by cases h⟩
theorem fl_X17_part_221 {s : State} {meth : Method} {args : Array Value} {G : sv_G} {B : Nat} (hts : ∀ w ∈ sv_tb, w.before args s = true) (hC : sv_Cx G B s s.heap) (hni : meth.name = "part") : sv_FL s meth args vwCl RX17 221 13 8 (.array .int) false :=
  ⟨_, RX13, TX13, 18, sv_tb, tyX13, rfl, by decide, hts, uw_X13, Or.inr ⟨"SectorViewModel", Or.inr ⟨rfl, va_Nw.use rfl (hC.2.1 (.fieldLinkNest "SectorViewModel" 221 "SectorViewModel$Hall" "floors" "[I" "SectorViewModel") (by decide +kernel))⟩⟩, fun _ h => h, tyX13_ok 8 (by decide), tyX13_ok, nmX13, fun h => by cases h⟩
theorem fl_X17_part_10 {s : State} {meth : Method} {args : Array Value} {G : sv_G} {B : Nat} (hts : ∀ w ∈ sv_tb, w.before args s = true) (hC : sv_Cx G B s s.heap) (hni : meth.name = "part") : sv_FL s meth args vwCl RX17 10 17 1 (.object "SectorViewModel$Lumps") false :=
  ⟨_, RX17, TX17, 29, sv_tb, tyX17, rfl, by decide, hts, uw_X17, Or.inl (hts _ wd_1692), fun _ h => h, tyX17_ok 1 (by decide), tyX17_ok, nmX17, fun h => by cases h⟩
set_option maxHeartbeats 4000000 in
set_option maxRecDepth 100000 in
theorem lk_X17_part_393b {p : Program} {l : Launch} {e : Env} {s : State} {m : MethodId} {args : Array Value} {below : List Frame} {meth : Method} {c : Code} {G : sv_G} {B : Nat} (K : sv_W p s m args meth c cX17_part RX17 24 none G B "part") {r : Unit} {hE : sv_H} {k393 : Nat → Int32 → Int32 → Int32 → Int32 → Int32 → Int64 → Int32 → Int32 → sv_H → Option (Unit × sv_H)} (hk393 : ∀ {x0 : Nat} {x2 : Int32} {x3 : Int32} {x4 : Int32} {x7 : Int32} {x11 : Int32} {x18 : Int64} {x20 : Int32} {x21 : Int32} {h : sv_H}, k393 x0 x2 x3 x4 x7 x11 x18 x20 x21 h = some (r, hE) → ∀ {H : Heap} {locs : List Loc} {ls : Array Slot}, sv_R G vwCl sv_ft B h H → va_S (fun q => B ≤ q) s.heap H locs → lv_has ls 24 [(0, .ref x0), (2, .int x2), (3, .int x3), (4, .int x4), (7, .int x7), (11, .int x11), (18, .long x18), (20, .int x20), (21, .int x21)] → W p l e rm_X17_part s m args below meth c H locs 0 0 (sv_Z below s args G B none hE) (F0 m 393 ls [])) {x0 : Nat} {x2 : Int32} {x3 : Int32} {x4 : Int32} {x7 : Int32} {x11 : Int32} {x18 : Int64} {x20 : Int32} {x21 : Int32} {h : sv_H} (hw : fn_X17_part_393b k393 x0 x2 x3 x4 x7 x11 x18 x20 x21 h = some (r, hE)) {H : Heap} {locs : List Loc} {ls : Array Slot} (hR : sv_R G vwCl sv_ft B h H) (hS : va_S (fun q => B ≤ q) s.heap H locs) (hl : lv_has ls 24 [(0, .ref x0), (2, .int x2), (3, .int x3), (4, .int x4), (7, .int x7), (11, .int x11), (18, .long x18), (20, .int x20), (21, .int x21)]) : W p l e rm_X17_part s m args below meth c H locs 0 0 (sv_Z below s args G B none hE) (F0 m 393 ls []) := by
  obtain ⟨hx, hb, hml, hown, hts, hC, hlk, hr, hBs, hni⟩ := id K
  unfold fn_X17_part_393b at hw
  refine lv_iload hx hb dX17_part_393 (lv_at hl 8 rfl) ?_
  refine lv_iload_n hx hb dX17_part_395 rfl (lv_at hl 1 rfl) ?_
  refine lv_icmp_ge (tgt := 491) hx hb dX17_part_396 (by decide) (fun cc => ?_) (fun cc => ?_)
  · have hw := sv_ift cc hw
    obtain ⟨rfl, rfl⟩ := sv_ret hw
    exact W.vret hx hb hr (fun t ht hW => ⟨⟨rfl, by rw [ht]; exact hR⟩, hS.F ht⟩) hS.2.2 dX17_part_491
  · have hw := sv_iff cc hw
    refine lv_aload_n hx hb dX17_part_399 rfl (lv_at hl 0 rfl) ?_
    obtain ⟨r1, h2, hv1, hw⟩ := sv_b_some hw
    refine sv_call (va_runV (As := []) (rest := []) ⟨hx, hb, hml, hown, hts⟩ (mt_X17_eye l G B hv1) (cwV 0 hts (sv_gV wd_2067 wd_2069 wd_96 wd_144 wd_2070) rfl rfl rfl (by decide +kernel) ⟨Nat.le_of_ble_eq_true rfl, Nat.le_of_ble_eq_true rfl⟩) ⟨sv_blind, sv_recv hC.1 hR (ci := 17) (sv_go hv1).1 (by decide) rfl, fun U hU hW => sv_pre hC hR hS hBs hU hW⟩ rfl rfl hl.1 rfl (lv_room (Nat.le_of_ble_eq_true rfl)) dX17_part_400 ⟨Nat.zero_le _, Nat.zero_le _⟩) hS (fun H locs hR hS => ?_)
    refine lv_i2l hx hb dX17_part_403 rfl ?_
    refine lv_bipush (v := 47) hx hb dX17_part_404 (by decide) ?_
    refine lv_iconst (v := 2) hx hb dX17_part_406 (by decide) ?_
    refine lv_iload hx hb dX17_part_407 (lv_at hl 8 rfl) ?_
    refine lv_imul hx hb dX17_part_409 ?_
    refine lv_isub hx hb dX17_part_410 ?_
    refine lv_i2l hx hb dX17_part_411 rfl ?_
    refine lv_ldc2 (v := 256) hx hb hown (hts _ wd_2123) dX17_part_412 ?_
    refine lv_lmul hx hb dX17_part_415 ?_
    refine lv_aload_n hx hb dX17_part_416 rfl (lv_at hl 0 rfl) ?_
    obtain ⟨v3, hv, hw⟩ := sv_bd hw
    refine sv_rgJ hx hb hown hC.1 hR (fl_X17_part_198 hts hC hni) rfl (by decide) rfl rfl hv dX17_part_417 ?_
    refine lv_lmul hx hb dX17_part_420 ?_
    refine lv_aload_n hx hb dX17_part_421 rfl (lv_at hl 0 rfl) ?_
    obtain ⟨v4, hv, hw⟩ := sv_bd hw
    refine sv_rgJ hx hb hown hC.1 hR (fl_X17_part_201 hts hC hni) rfl (by decide) rfl rfl hv dX17_part_422 ?_
    obtain ⟨r5, h6, hv2, hw⟩ := sv_b_some hw
    refine sv_call (va_runS (As := [.long (((Int32.toInt64 (47 - (2 * x21))) * 256) * v3), .long v4]) (rest := [.long (Int32.toInt64 r1)]) ⟨hx, hb, hml, hown, hts⟩ (mt_X17_down l G B hv2) (va_cwS 2 hts (sv_gS wd_2072 wd_2073 wd_144 wd_2074) rfl rfl rfl (by decide +kernel) ⟨Nat.le_of_ble_eq_true rfl, Nat.le_of_ble_eq_true rfl⟩) ⟨sv_blind, fun U hU hW => sv_pre hC hR hS hBs hU hW⟩ rfl rfl hl.1 rfl (lv_room (Nat.le_of_ble_eq_true rfl)) dX17_part_425 ⟨Nat.zero_le _, Nat.zero_le _⟩) hS (fun H locs hR hS => ?_)
    refine lv_ladd hx hb dX17_part_428 ?_
    refine lv_lstore (lv' := [(22, .long ((Int32.toInt64 r1) + r5)), (0, .ref x0), (2, .int x2), (3, .int x3), (4, .int x4), (7, .int x7), (11, .int x11), (18, .long x18), (20, .int x20), (21, .int x21)]) hx hb dX17_part_429 hl (by decide) rfl (fun ls hl => ?_)
    refine lv_aload_n hx hb dX17_part_431 rfl (lv_at hl 1 rfl) ?_
    obtain ⟨v7, hv, hw⟩ := sv_bd hw
    refine sv_rgP hx hb hown hC.1 hR (fl_X17_part_51 hts hC hni) rfl (by decide) rfl rfl hv dX17_part_432 ?_
    refine lv_iload hx hb dX17_part_435 (lv_at hl 9 rfl) ?_
    refine lv_sipush (v := 256) hx hb dX17_part_437 (by decide) ?_
    refine lv_iload_n hx hb dX17_part_440 rfl (lv_at hl 3 rfl) ?_
    refine lv_imul hx hb dX17_part_441 ?_
    refine lv_iload hx hb dX17_part_442 (lv_at hl 4 rfl) ?_
    refine lv_iadd hx hb dX17_part_444 ?_
    obtain ⟨h8, hv, hw⟩ := sv_bd hw
    refine sv_rsI hx hb hC.1 rfl hR hS hv dX17_part_445 (fun H locs hR hS => ?_)
    refine lv_aload_n hx hb dX17_part_446 rfl (lv_at hl 1 rfl) ?_
    obtain ⟨v9, hv, hw⟩ := sv_bd hw
    refine sv_rgP hx hb hown hC.1 hR (fl_X17_part_54 hts hC hni) rfl (by decide) rfl rfl hv dX17_part_447 ?_
    refine lv_iload hx hb dX17_part_450 (lv_at hl 9 rfl) ?_
    refine lv_bipush (v := 16) hx hb dX17_part_452 (by decide) ?_
    refine lv_aload_n hx hb dX17_part_454 rfl (lv_at hl 1 rfl) ?_
    refine lv_iload hx hb dX17_part_455 (lv_at hl 5 rfl) ?_
    refine lv_lload hx hb dX17_part_457 (lv_at hl 7 rfl) ?_
    refine lv_iload hx hb dX17_part_459 (lv_at hl 6 rfl) ?_
    refine lv_iconst (v := 1) hx hb dX17_part_461 (by decide) ?_
    refine lv_isub hx hb dX17_part_462 ?_
    refine lv_i2l hx hb dX17_part_463 rfl ?_
    refine lv_lload hx hb dX17_part_464 (lv_at hl 0 rfl) ?_
    refine lv_lsub hx hb dX17_part_466 ?_
    refine lv_aload_n hx hb dX17_part_467 rfl (lv_at hl 1 rfl) ?_
    refine lv_iload hx hb dX17_part_468 (lv_at hl 4 rfl) ?_
    refine lv_bipush (v := 11) hx hb dX17_part_470 (by decide) ?_
    obtain ⟨r10, h11, hv3, hw⟩ := sv_b_some hw
    refine sv_call (sv_runV9 (Nat.le_of_ble_eq_true rfl) (As := [.int x4, .int 11]) (rest := [.long ((Int32.toInt64 (x11 - 1)) - ((Int32.toInt64 r1) + r5)), .long x18, .int x7, .ref x0, .int 16, .int x21, .ref v9]) ⟨hx, hb, hml, hown, hts⟩ (mt_X17_wallPart l G B hv3) (cwV 2 hts (sv_gV wd_2058 wd_2060 wd_94 wd_144 wd_2061) rfl rfl rfl (by decide +kernel) ⟨Nat.le_of_ble_eq_true rfl, Nat.le_of_ble_eq_true rfl⟩) ⟨sv_blind, sv_recv hC.1 hR (ci := 17) (sv_go hv3).1 (by decide) rfl, fun U hU hW => sv_pre hC hR hS hBs hU hW⟩ rfl rfl hl.1 rfl (by show 2 * 0 + _ ≤ 9; exact Nat.le_of_ble_eq_true rfl) dX17_part_472 ⟨Nat.zero_le _, Nat.zero_le _⟩) hS (fun H locs hR hS => ?_)
    refine lv_i2l hx hb dX17_part_475 rfl ?_
    refine lv_ladd hx hb dX17_part_476 ?_
    obtain ⟨r12, h13, hv4, hw⟩ := sv_b_some hw
    refine sv_call (va_runV (As := [.int x7, .long x18, .long (((Int32.toInt64 (x11 - 1)) - ((Int32.toInt64 r1) + r5)) + (Int32.toInt64 r10))]) (rest := [.int 16, .int x21, .ref v9]) ⟨hx, hb, hml, hown, hts⟩ (mt_X17_texel l G B hv4) (cwV 3 hts (sv_gV wd_2079 wd_2081 wd_98 wd_144 wd_2082) rfl rfl rfl (by decide +kernel) ⟨Nat.le_of_ble_eq_true rfl, Nat.le_of_ble_eq_true rfl⟩) ⟨sv_blind, sv_recv hC.1 hR (ci := 17) (sv_go hv4).1 (by decide) rfl, fun U hU hW => sv_pre hC hR hS hBs hU hW⟩ rfl rfl hl.1 rfl (lv_room (Nat.le_of_ble_eq_true rfl)) dX17_part_477 ⟨Nat.zero_le _, Nat.zero_le _⟩) hS (fun H locs hR hS => ?_)
    refine lv_imul hx hb dX17_part_480 ?_
    refine lv_iload hx hb dX17_part_481 (lv_at hl 8 rfl) ?_
    refine lv_iadd hx hb dX17_part_483 ?_
    obtain ⟨h14, hv, hw⟩ := sv_bd hw
    refine sv_rsI hx hb hC.1 rfl hR hS hv dX17_part_484 (fun H locs hR hS => ?_)
    refine lv_iinc (v := x21 + 1) (lv' := [(21, .int (x21 + 1)), (22, .long ((Int32.toInt64 r1) + r5)), (0, .ref x0), (2, .int x2), (3, .int x3), (4, .int x4), (7, .int x7), (11, .int x11), (18, .long x18), (20, .int x20)]) hx hb dX17_part_485 hl (k := 9) rfl rfl (by decide) rfl (fun ls hl => ?_)
    refine lv_goto (tgt := 393) hx hb dX17_part_488 (by decide) ?_
    exact hk393 hw hR hS (lv_sub hl [2, 3, 4, 5, 6, 7, 8, 9, 0] rfl)
theorem lk_X17_part_393 {p : Program} {l : Launch} {e : Env} {s : State} {m : MethodId} {args : Array Value} {below : List Frame} {meth : Method} {c : Code} {G : sv_G} {B : Nat} (K : sv_W p s m args meth c cX17_part RX17 24 none G B "part") {r : Unit} {hE : sv_H} : ∀ (n : Nat) {x0 : Nat} {x2 : Int32} {x3 : Int32} {x4 : Int32} {x7 : Int32} {x11 : Int32} {x18 : Int64} {x20 : Int32} {x21 : Int32} {h : sv_H}, fn_X17_part_393 n x0 x2 x3 x4 x7 x11 x18 x20 x21 h = some (r, hE) → ∀ {H : Heap} {locs : List Loc} {ls : Array Slot}, sv_R G vwCl sv_ft B h H → va_S (fun q => B ≤ q) s.heap H locs → lv_has ls 24 [(0, .ref x0), (2, .int x2), (3, .int x3), (4, .int x4), (7, .int x7), (11, .int x11), (18, .long x18), (20, .int x20), (21, .int x21)] → W p l e rm_X17_part s m args below meth c H locs 0 0 (sv_Z below s args G B none hE) (F0 m 393 ls []) := by
  intro n
  induction n with
  | zero => intro x0 x2 x3 x4 x7 x11 x18 x20 x21 h hw; cases (show (none : Option (Unit × sv_H)) = some (r, hE) from hw)
  | succ n ih => intro x0 x2 x3 x4 x7 x11 x18 x20 x21 h hw H locs ls hR hS hl; exact lk_X17_part_393b K (fun hw => ih hw) hw hR hS hl
set_option maxHeartbeats 4000000 in
set_option maxRecDepth 100000 in
theorem lk_X17_part_355 {p : Program} {l : Launch} {e : Env} {s : State} {m : MethodId} {args : Array Value} {below : List Frame} {meth : Method} {c : Code} {G : sv_G} {B : Nat} (K : sv_W p s m args meth c cX17_part RX17 24 none G B "part") {r : Unit} {hE : sv_H} {x0 : Nat} {x1 : Int32} {x2 : Int32} {x3 : Int32} {x4 : Int32} {x5 : Int32} {x7 : Int32} {x11 : Int32} {s0 : Int64} {h : sv_H} (hw : fn_X17_part_355 x0 x1 x2 x3 x4 x5 x7 x11 s0 h = some (r, hE)) {H : Heap} {locs : List Loc} {ls : Array Slot} (hR : sv_R G vwCl sv_ft B h H) (hS : va_S (fun q => B ≤ q) s.heap H locs) (hl : lv_has ls 24 [(0, .ref x0), (1, .int x1), (2, .int x2), (3, .int x3), (4, .int x4), (5, .int x5), (7, .int x7), (11, .int x11)]) : W p l e rm_X17_part s m args below meth c H locs 0 0 (sv_Z below s args G B none hE) (F0 m 355 ls [.long s0]) := by
  obtain ⟨hx, hb, hml, hown, hts, hC, hlk, hr, hBs, hni⟩ := id K
  unfold fn_X17_part_355 at hw
  refine lv_aload_n hx hb dX17_part_355 rfl (lv_at hl 0 rfl) ?_
  refine lv_iload hx hb dX17_part_356 (lv_at hl 4 rfl) ?_
  refine lv_bipush (v := 10) hx hb dX17_part_358 (by decide) ?_
  obtain ⟨r1, h2, hv1, hw⟩ := sv_b_some hw
  refine sv_call (va_runV (As := [.int x4, .int 10]) (rest := [.long s0]) ⟨hx, hb, hml, hown, hts⟩ (mt_X17_wallPart l G B hv1) (cwV 2 hts (sv_gV wd_2058 wd_2060 wd_94 wd_144 wd_2061) rfl rfl rfl (by decide +kernel) ⟨Nat.le_of_ble_eq_true rfl, Nat.le_of_ble_eq_true rfl⟩) ⟨sv_blind, sv_recv hC.1 hR (ci := 17) (sv_go hv1).1 (by decide) rfl, fun U hU hW => sv_pre hC hR hS hBs hU hW⟩ rfl rfl hl.1 rfl (lv_room (Nat.le_of_ble_eq_true rfl)) dX17_part_360 ⟨Nat.zero_le _, Nat.zero_le _⟩) hS (fun H locs hR hS => ?_)
  refine lv_i2l hx hb dX17_part_363 rfl ?_
  refine lv_ladd hx hb dX17_part_364 ?_
  refine lv_lstore (lv' := [(18, .long (s0 + (Int32.toInt64 r1))), (0, .ref x0), (1, .int x1), (2, .int x2), (3, .int x3), (4, .int x4), (5, .int x5), (7, .int x7), (11, .int x11)]) hx hb dX17_part_365 hl (by decide) rfl (fun ls hl => ?_)
  refine lv_aload_n hx hb dX17_part_367 rfl (lv_at hl 1 rfl) ?_
  refine lv_iload hx hb dX17_part_368 (lv_at hl 6 rfl) ?_
  refine lv_ldc2 (v := 64) hx hb hown (hts _ wd_2023) dX17_part_370 ?_
  refine lv_aload_n hx hb dX17_part_373 rfl (lv_at hl 1 rfl) ?_
  obtain ⟨v3, hv, hw⟩ := sv_bd hw
  refine sv_rgJ hx hb hown hC.1 hR (fl_X17_part_198 hts hC hni) rfl (by decide) rfl rfl hv dX17_part_374 ?_
  refine lv_lmul hx hb dX17_part_377 ?_
  refine lv_aload_n hx hb dX17_part_378 rfl (lv_at hl 1 rfl) ?_
  obtain ⟨v4, hv, hw⟩ := sv_bd hw
  refine sv_rgJ hx hb hown hC.1 hR (fl_X17_part_201 hts hC hni) rfl (by decide) rfl rfl hv dX17_part_379 ?_
  obtain ⟨r5, h6, hv2, hw⟩ := sv_b_some hw
  refine sv_call (va_runS (As := [.long (64 * v3), .long v4]) (rest := [.int x5, .ref x0]) ⟨hx, hb, hml, hown, hts⟩ (mt_X17_down l G B hv2) (va_cwS 2 hts (sv_gS wd_2072 wd_2073 wd_144 wd_2074) rfl rfl rfl (by decide +kernel) ⟨Nat.le_of_ble_eq_true rfl, Nat.le_of_ble_eq_true rfl⟩) ⟨sv_blind, fun U hU hW => sv_pre hC hR hS hBs hU hW⟩ rfl rfl hl.1 rfl (lv_room (Nat.le_of_ble_eq_true rfl)) dX17_part_382 ⟨Nat.zero_le _, Nat.zero_le _⟩) hS (fun H locs hR hS => ?_)
  obtain ⟨r7, h8, hv3, hw⟩ := sv_b_some hw
  refine sv_call (va_runV (As := [.int x5, .long r5]) (rest := []) ⟨hx, hb, hml, hown, hts⟩ (mt_X17_shade l G B hv3) (cwV 2 hts (sv_gV wd_2090 wd_2092 wd_99 wd_144 wd_2093) rfl rfl rfl (by decide +kernel) ⟨Nat.le_of_ble_eq_true rfl, Nat.le_of_ble_eq_true rfl⟩) ⟨sv_blind, sv_recv hC.1 hR (ci := 17) (sv_go hv3).1 (by decide) rfl, fun U hU hW => sv_pre hC hR hS hBs hU hW⟩ rfl rfl hl.1 rfl (lv_room (Nat.le_of_ble_eq_true rfl)) dX17_part_385 ⟨Nat.zero_le _, Nat.zero_le _⟩) hS (fun H locs hR hS => ?_)
  refine lv_istore (lv' := [(20, .int r7), (18, .long (s0 + (Int32.toInt64 r1))), (0, .ref x0), (1, .int x1), (2, .int x2), (3, .int x3), (4, .int x4), (5, .int x5), (7, .int x7), (11, .int x11)]) hx hb dX17_part_388 hl (by decide) rfl (fun ls hl => ?_)
  refine lv_iload_n hx hb dX17_part_390 rfl (lv_at hl 3 rfl) ?_
  refine lv_istore (lv' := [(21, .int x1), (20, .int r7), (18, .long (s0 + (Int32.toInt64 r1))), (0, .ref x0), (1, .int x1), (2, .int x2), (3, .int x3), (4, .int x4), (5, .int x5), (7, .int x7), (11, .int x11)]) hx hb dX17_part_391 hl (by decide) rfl (fun ls hl => ?_)
  exact lk_X17_part_393 K sv_fuel hw hR hS (lv_sub hl [3, 5, 6, 7, 9, 10, 2, 1, 0] rfl)
set_option maxHeartbeats 4000000 in
set_option maxRecDepth 100000 in
theorem lk_X17_part_305 {p : Program} {l : Launch} {e : Env} {s : State} {m : MethodId} {args : Array Value} {below : List Frame} {meth : Method} {c : Code} {G : sv_G} {B : Nat} (K : sv_W p s m args meth c cX17_part RX17 24 none G B "part") {r : Unit} {hE : sv_H} {x0 : Nat} {x1 : Int32} {x2 : Int32} {x3 : Int32} {x4 : Int32} {x5 : Int32} {x7 : Int32} {x11 : Int32} {s0 : Int64} {h : sv_H} (hw : fn_X17_part_305 x0 x1 x2 x3 x4 x5 x7 x11 s0 h = some (r, hE)) {H : Heap} {locs : List Loc} {ls : Array Slot} (hR : sv_R G vwCl sv_ft B h H) (hS : va_S (fun q => B ≤ q) s.heap H locs) (hl : lv_has ls 24 [(0, .ref x0), (1, .int x1), (2, .int x2), (3, .int x3), (4, .int x4), (5, .int x5), (7, .int x7), (11, .int x11)]) : W p l e rm_X17_part s m args below meth c H locs 0 0 (sv_Z below s args G B none hE) (F0 m 305 ls [.long s0]) := by
  obtain ⟨hx, hb, hml, hown, hts, hC, hlk, hr, hBs, hni⟩ := id K
  unfold fn_X17_part_305 at hw
  refine lv_lstore (lv' := [(16, .long s0), (0, .ref x0), (1, .int x1), (2, .int x2), (3, .int x3), (4, .int x4), (5, .int x5), (7, .int x7), (11, .int x11)]) hx hb dX17_part_305 hl (by decide) rfl (fun ls hl => ?_)
  refine lv_aload_n hx hb dX17_part_307 rfl (lv_at hl 1 rfl) ?_
  obtain ⟨v1, hv, hw⟩ := sv_bd hw
  refine sv_rgI hx hb hown hC.1 hR (fl_X17_part_204 hts hC hni) rfl (by decide) rfl rfl hv dX17_part_308 ?_
  refine lv_if_eq (tgt := 336) hx hb dX17_part_311 (by decide) (fun cc => ?_) (fun cc => ?_)
  · have hw := sv_ift cc hw
    refine lv_lload hx hb dX17_part_336 (lv_at hl 0 rfl) ?_
    refine lv_aload_n hx hb dX17_part_338 rfl (lv_at hl 1 rfl) ?_
    obtain ⟨v2, hv, hw⟩ := sv_bd hw
    refine sv_rgJ hx hb hown hC.1 hR (fl_X17_part_195 hts hC hni) rfl (by decide) rfl rfl hv dX17_part_339 ?_
    refine lv_lmul hx hb dX17_part_342 ?_
    refine lv_aload_n hx hb dX17_part_343 rfl (lv_at hl 1 rfl) ?_
    obtain ⟨v3, hv, hw⟩ := sv_bd hw
    refine sv_rgJ hx hb hown hC.1 hR (fl_X17_part_195 hts hC hni) rfl (by decide) rfl rfl hv dX17_part_344 ?_
    refine lv_aload_n hx hb dX17_part_347 rfl (lv_at hl 1 rfl) ?_
    obtain ⟨v4, hv, hw⟩ := sv_bd hw
    refine sv_rgJ hx hb hown hC.1 hR (fl_X17_part_192 hts hC hni) rfl (by decide) rfl rfl hv dX17_part_348 ?_
    refine lv_lsub hx hb dX17_part_351 ?_
    obtain ⟨r5, h6, hv1, hw⟩ := sv_b_some hw
    refine sv_call (va_runS (As := [.long (s0 * v2), .long (v3 - v4)]) (rest := []) ⟨hx, hb, hml, hown, hts⟩ (mt_X17_down l G B hv1) (va_cwS 2 hts (sv_gS wd_2072 wd_2073 wd_144 wd_2074) rfl rfl rfl (by decide +kernel) ⟨Nat.le_of_ble_eq_true rfl, Nat.le_of_ble_eq_true rfl⟩) ⟨sv_blind, fun U hU hW => sv_pre hC hR hS hBs hU hW⟩ rfl rfl hl.1 rfl (lv_room (Nat.le_of_ble_eq_true rfl)) dX17_part_352 ⟨Nat.zero_le _, Nat.zero_le _⟩) hS (fun H locs hR hS => ?_)
    exact lk_X17_part_355 K hw hR hS (lv_sub hl [1, 2, 3, 4, 5, 6, 7, 8] rfl)
  · have hw := sv_iff cc hw
    refine lv_lload hx hb dX17_part_314 (lv_at hl 0 rfl) ?_
    refine lv_aload_n hx hb dX17_part_316 rfl (lv_at hl 1 rfl) ?_
    obtain ⟨v7, hv, hw⟩ := sv_bd hw
    refine sv_rgJ hx hb hown hC.1 hR (fl_X17_part_192 hts hC hni) rfl (by decide) rfl rfl hv dX17_part_317 ?_
    refine lv_lmul hx hb dX17_part_320 ?_
    refine lv_aload_n hx hb dX17_part_321 rfl (lv_at hl 1 rfl) ?_
    obtain ⟨v8, hv, hw⟩ := sv_bd hw
    refine sv_rgJ hx hb hown hC.1 hR (fl_X17_part_192 hts hC hni) rfl (by decide) rfl rfl hv dX17_part_322 ?_
    refine lv_aload_n hx hb dX17_part_325 rfl (lv_at hl 1 rfl) ?_
    obtain ⟨v9, hv, hw⟩ := sv_bd hw
    refine sv_rgJ hx hb hown hC.1 hR (fl_X17_part_195 hts hC hni) rfl (by decide) rfl rfl hv dX17_part_326 ?_
    refine lv_lsub hx hb dX17_part_329 ?_
    obtain ⟨r10, h11, hv2, hw⟩ := sv_b_some hw
    refine sv_call (va_runS (As := [.long (s0 * v7), .long (v8 - v9)]) (rest := []) ⟨hx, hb, hml, hown, hts⟩ (mt_X17_down l G B hv2) (va_cwS 2 hts (sv_gS wd_2072 wd_2073 wd_144 wd_2074) rfl rfl rfl (by decide +kernel) ⟨Nat.le_of_ble_eq_true rfl, Nat.le_of_ble_eq_true rfl⟩) ⟨sv_blind, fun U hU hW => sv_pre hC hR hS hBs hU hW⟩ rfl rfl hl.1 rfl (lv_room (Nat.le_of_ble_eq_true rfl)) dX17_part_330 ⟨Nat.zero_le _, Nat.zero_le _⟩) hS (fun H locs hR hS => ?_)
    refine lv_goto (tgt := 355) hx hb dX17_part_333 (by decide) ?_
    exact lk_X17_part_355 K hw hR hS (lv_sub hl [1, 2, 3, 4, 5, 6, 7, 8] rfl)
set_option maxHeartbeats 4000000 in
set_option maxRecDepth 100000 in
theorem lk_X17_part_288 {p : Program} {l : Launch} {e : Env} {s : State} {m : MethodId} {args : Array Value} {below : List Frame} {meth : Method} {c : Code} {G : sv_G} {B : Nat} (K : sv_W p s m args meth c cX17_part RX17 24 none G B "part") {r : Unit} {hE : sv_H} {x0 : Nat} {x1 : Int32} {x2 : Int32} {x3 : Int32} {x4 : Int32} {x5 : Int32} {x7 : Int32} {x11 : Int32} {x12 : Int64} {s0 : Int64} {h : sv_H} (hw : fn_X17_part_288 x0 x1 x2 x3 x4 x5 x7 x11 x12 s0 h = some (r, hE)) {H : Heap} {locs : List Loc} {ls : Array Slot} (hR : sv_R G vwCl sv_ft B h H) (hS : va_S (fun q => B ≤ q) s.heap H locs) (hl : lv_has ls 24 [(0, .ref x0), (1, .int x1), (2, .int x2), (3, .int x3), (4, .int x4), (5, .int x5), (7, .int x7), (11, .int x11), (12, .long x12)]) : W p l e rm_X17_part s m args below meth c H locs 0 0 (sv_Z below s args G B none hE) (F0 m 288 ls [.long s0]) := by
  obtain ⟨hx, hb, hml, hown, hts, hC, hlk, hr, hBs, hni⟩ := id K
  unfold fn_X17_part_288 at hw
  refine lv_lstore (lv' := [(14, .long s0), (0, .ref x0), (1, .int x1), (2, .int x2), (3, .int x3), (4, .int x4), (5, .int x5), (7, .int x7), (11, .int x11), (12, .long x12)]) hx hb dX17_part_288 hl (by decide) rfl (fun ls hl => ?_)
  refine lv_lload hx hb dX17_part_290 (lv_at hl 9 rfl) ?_
  refine lv_lload hx hb dX17_part_292 (lv_at hl 0 rfl) ?_
  refine W.lcmp hx hb dX17_part_294 ?_
  refine lv_if_le (tgt := 303) hx hb dX17_part_295 (by decide) (fun cc => ?_) (fun cc => ?_)
  · have hw := sv_ift cc hw
    refine lv_lload hx hb dX17_part_303 (lv_at hl 0 rfl) ?_
    exact lk_X17_part_305 K hw hR hS (lv_sub hl [1, 2, 3, 4, 5, 6, 7, 8] rfl)
  · have hw := sv_iff cc hw
    refine lv_lload hx hb dX17_part_298 (lv_at hl 9 rfl) ?_
    refine lv_goto (tgt := 305) hx hb dX17_part_300 (by decide) ?_
    exact lk_X17_part_305 K hw hR hS (lv_sub hl [1, 2, 3, 4, 5, 6, 7, 8] rfl)
set_option maxHeartbeats 4000000 in
set_option maxRecDepth 100000 in
theorem lk_X17_part_271 {p : Program} {l : Launch} {e : Env} {s : State} {m : MethodId} {args : Array Value} {below : List Frame} {meth : Method} {c : Code} {G : sv_G} {B : Nat} (K : sv_W p s m args meth c cX17_part RX17 24 none G B "part") {r : Unit} {hE : sv_H} {x0 : Nat} {x1 : Int32} {x2 : Int32} {x3 : Int32} {x4 : Int32} {x5 : Int32} {x7 : Int32} {x11 : Int32} {x14 : Int64} {s0 : Int64} {h : sv_H} (hw : fn_X17_part_271 x0 x1 x2 x3 x4 x5 x7 x11 x14 s0 h = some (r, hE)) {H : Heap} {locs : List Loc} {ls : Array Slot} (hR : sv_R G vwCl sv_ft B h H) (hS : va_S (fun q => B ≤ q) s.heap H locs) (hl : lv_has ls 24 [(0, .ref x0), (1, .int x1), (2, .int x2), (3, .int x3), (4, .int x4), (5, .int x5), (7, .int x7), (11, .int x11), (14, .long x14)]) : W p l e rm_X17_part s m args below meth c H locs 0 0 (sv_Z below s args G B none hE) (F0 m 271 ls [.long s0]) := by
  obtain ⟨hx, hb, hml, hown, hts, hC, hlk, hr, hBs, hni⟩ := id K
  unfold fn_X17_part_271 at hw
  refine lv_lstore (lv' := [(12, .long s0), (0, .ref x0), (1, .int x1), (2, .int x2), (3, .int x3), (4, .int x4), (5, .int x5), (7, .int x7), (11, .int x11), (14, .long x14)]) hx hb dX17_part_271 hl (by decide) rfl (fun ls hl => ?_)
  refine lv_lload hx hb dX17_part_273 (lv_at hl 9 rfl) ?_
  refine lv_lconst (v := 0) hx hb dX17_part_275 (by decide) ?_
  refine W.lcmp hx hb dX17_part_276 ?_
  refine lv_if_ge (tgt := 286) hx hb dX17_part_277 (by decide) (fun cc => ?_) (fun cc => ?_)
  · have hw := sv_ift cc hw
    refine lv_lload hx hb dX17_part_286 (lv_at hl 9 rfl) ?_
    exact lk_X17_part_288 K hw hR hS (lv_sub hl [1, 2, 3, 4, 5, 6, 7, 8, 0] rfl)
  · have hw := sv_iff cc hw
    refine lv_lload hx hb dX17_part_280 (lv_at hl 9 rfl) ?_
    refine lv_lneg hx hb dX17_part_282 ?_
    refine lv_goto (tgt := 288) hx hb dX17_part_283 (by decide) ?_
    exact lk_X17_part_288 K hw hR hS (lv_sub hl [1, 2, 3, 4, 5, 6, 7, 8, 0] rfl)
set_option maxHeartbeats 4000000 in
set_option maxRecDepth 100000 in
theorem lk_X17_part_206 {p : Program} {l : Launch} {e : Env} {s : State} {m : MethodId} {args : Array Value} {below : List Frame} {meth : Method} {c : Code} {G : sv_G} {B : Nat} (K : sv_W p s m args meth c cX17_part RX17 24 none G B "part") {r : Unit} {hE : sv_H} {x0 : Nat} {x1 : Int32} {x2 : Int32} {x3 : Int32} {x4 : Int32} {x5 : Int32} {x7 : Int32} {s0 : Int32} {h : sv_H} (hw : fn_X17_part_206 x0 x1 x2 x3 x4 x5 x7 s0 h = some (r, hE)) {H : Heap} {locs : List Loc} {ls : Array Slot} (hR : sv_R G vwCl sv_ft B h H) (hS : va_S (fun q => B ≤ q) s.heap H locs) (hl : lv_has ls 24 [(0, .ref x0), (1, .int x1), (2, .int x2), (3, .int x3), (4, .int x4), (5, .int x5), (7, .int x7)]) : W p l e rm_X17_part s m args below meth c H locs 0 0 (sv_Z below s args G B none hE) (F0 m 206 ls [.int s0]) := by
  obtain ⟨hx, hb, hml, hown, hts, hC, hlk, hr, hBs, hni⟩ := id K
  unfold fn_X17_part_206 at hw
  refine lv_istore (lv' := [(11, .int s0), (0, .ref x0), (1, .int x1), (2, .int x2), (3, .int x3), (4, .int x4), (5, .int x5), (7, .int x7)]) hx hb dX17_part_206 hl (by decide) rfl (fun ls hl => ?_)
  refine lv_aload_n hx hb dX17_part_208 rfl (lv_at hl 1 rfl) ?_
  obtain ⟨v1, hv, hw⟩ := sv_bd hw
  refine sv_rgP hx hb hown hC.1 hR (fl_X17_part_33 hts hC hni) rfl (by decide) rfl rfl hv dX17_part_209 ?_
  obtain ⟨v2, hv, hw⟩ := sv_bd hw
  refine sv_rgP hx hb hown hC.1 hR (fl_X17_part_145 hts hC hni) rfl (by decide) rfl rfl hv dX17_part_212 ?_
  refine lv_iload hx hb dX17_part_215 (lv_at hl 5 rfl) ?_
  obtain ⟨v3, hv, hw⟩ := sv_bd hw
  refine sv_rlI hx hb hC.1 rfl hR hv dX17_part_217 ?_
  refine lv_aload_n hx hb dX17_part_218 rfl (lv_at hl 1 rfl) ?_
  obtain ⟨v4, hv, hw⟩ := sv_bd hw
  refine sv_rgP hx hb hown hC.1 hR (fl_X17_part_33 hts hC hni) rfl (by decide) rfl rfl hv dX17_part_219 ?_
  obtain ⟨v5, hv, hw⟩ := sv_bd hw
  refine sv_rgP hx hb hown hC.1 hR (fl_X17_part_135 hts hC hni) rfl (by decide) rfl rfl hv dX17_part_222 ?_
  refine lv_iload hx hb dX17_part_225 (lv_at hl 5 rfl) ?_
  obtain ⟨v6, hv, hw⟩ := sv_bd hw
  refine sv_rlI hx hb hC.1 rfl hR hv dX17_part_227 ?_
  refine lv_isub hx hb dX17_part_228 ?_
  refine lv_i2l hx hb dX17_part_229 rfl ?_
  refine lv_lstore (lv' := [(12, .long (Int32.toInt64 (v3 - v6))), (11, .int s0), (0, .ref x0), (1, .int x1), (2, .int x2), (3, .int x3), (4, .int x4), (5, .int x5), (7, .int x7)]) hx hb dX17_part_230 hl (by decide) rfl (fun ls hl => ?_)
  refine lv_aload_n hx hb dX17_part_232 rfl (lv_at hl 2 rfl) ?_
  obtain ⟨v7, hv, hw⟩ := sv_bd hw
  refine sv_rgP hx hb hown hC.1 hR (fl_X17_part_33 hts hC hni) rfl (by decide) rfl rfl hv dX17_part_233 ?_
  obtain ⟨v8, hv, hw⟩ := sv_bd hw
  refine sv_rgP hx hb hown hC.1 hR (fl_X17_part_148 hts hC hni) rfl (by decide) rfl rfl hv dX17_part_236 ?_
  refine lv_iload hx hb dX17_part_239 (lv_at hl 6 rfl) ?_
  obtain ⟨v9, hv, hw⟩ := sv_bd hw
  refine sv_rlI hx hb hC.1 rfl hR hv dX17_part_241 ?_
  refine lv_aload_n hx hb dX17_part_242 rfl (lv_at hl 2 rfl) ?_
  obtain ⟨v10, hv, hw⟩ := sv_bd hw
  refine sv_rgP hx hb hown hC.1 hR (fl_X17_part_33 hts hC hni) rfl (by decide) rfl rfl hv dX17_part_243 ?_
  obtain ⟨v11, hv, hw⟩ := sv_bd hw
  refine sv_rgP hx hb hown hC.1 hR (fl_X17_part_142 hts hC hni) rfl (by decide) rfl rfl hv dX17_part_246 ?_
  refine lv_iload hx hb dX17_part_249 (lv_at hl 6 rfl) ?_
  obtain ⟨v12, hv, hw⟩ := sv_bd hw
  refine sv_rlI hx hb hC.1 rfl hR hv dX17_part_251 ?_
  refine lv_isub hx hb dX17_part_252 ?_
  refine lv_i2l hx hb dX17_part_253 rfl ?_
  refine lv_lstore (lv' := [(14, .long (Int32.toInt64 (v9 - v12))), (12, .long (Int32.toInt64 (v3 - v6))), (11, .int s0), (0, .ref x0), (1, .int x1), (2, .int x2), (3, .int x3), (4, .int x4), (5, .int x5), (7, .int x7)]) hx hb dX17_part_254 hl (by decide) rfl (fun ls hl => ?_)
  refine lv_lload hx hb dX17_part_256 (lv_at hl 1 rfl) ?_
  refine lv_lconst (v := 0) hx hb dX17_part_258 (by decide) ?_
  refine W.lcmp hx hb dX17_part_259 ?_
  refine lv_if_ge (tgt := 269) hx hb dX17_part_260 (by decide) (fun cc => ?_) (fun cc => ?_)
  · have hw := sv_ift cc hw
    refine lv_lload hx hb dX17_part_269 (lv_at hl 1 rfl) ?_
    exact lk_X17_part_271 K hw hR hS (lv_sub hl [3, 4, 5, 6, 7, 8, 9, 2, 0] rfl)
  · have hw := sv_iff cc hw
    refine lv_lload hx hb dX17_part_263 (lv_at hl 1 rfl) ?_
    refine lv_lneg hx hb dX17_part_265 ?_
    refine lv_goto (tgt := 271) hx hb dX17_part_266 (by decide) ?_
    exact lk_X17_part_271 K hw hR hS (lv_sub hl [3, 4, 5, 6, 7, 8, 9, 2, 0] rfl)
set_option maxHeartbeats 4000000 in
set_option maxRecDepth 100000 in
theorem lk_X17_part_110 {p : Program} {l : Launch} {e : Env} {s : State} {m : MethodId} {args : Array Value} {below : List Frame} {meth : Method} {c : Code} {G : sv_G} {B : Nat} (K : sv_W p s m args meth c cX17_part RX17 24 none G B "part") {r : Unit} {hE : sv_H} {x0 : Nat} {x1 : Int32} {x2 : Int32} {x3 : Int32} {x4 : Int32} {x5 : Int32} {x6 : Int32} {x7 : Int32} {x8 : Int32} {s0 : Int32} {h : sv_H} (hw : fn_X17_part_110 x0 x1 x2 x3 x4 x5 x6 x7 x8 s0 h = some (r, hE)) {H : Heap} {locs : List Loc} {ls : Array Slot} (hR : sv_R G vwCl sv_ft B h H) (hS : va_S (fun q => B ≤ q) s.heap H locs) (hl : lv_has ls 24 [(0, .ref x0), (1, .int x1), (2, .int x2), (3, .int x3), (4, .int x4), (5, .int x5), (6, .int x6), (7, .int x7), (8, .int x8)]) : W p l e rm_X17_part s m args below meth c H locs 0 0 (sv_Z below s args G B none hE) (F0 m 110 ls [.int s0]) := by
  obtain ⟨hx, hb, hml, hown, hts, hC, hlk, hr, hBs, hni⟩ := id K
  unfold fn_X17_part_110 at hw
  refine lv_istore (lv' := [(9, .int s0), (0, .ref x0), (1, .int x1), (2, .int x2), (3, .int x3), (4, .int x4), (5, .int x5), (6, .int x6), (7, .int x7), (8, .int x8)]) hx hb dX17_part_110 hl (by decide) rfl (fun ls hl => ?_)
  refine lv_aload_n hx hb dX17_part_112 rfl (lv_at hl 1 rfl) ?_
  obtain ⟨v1, hv, hw⟩ := sv_bd hw
  refine sv_rgP hx hb hown hC.1 hR (fl_X17_part_26 hts hC hni) rfl (by decide) rfl rfl hv dX17_part_113 ?_
  obtain ⟨v2, hv, hw⟩ := sv_bd hw
  refine sv_rgP hx hb hown hC.1 hR (fl_X17_part_247 hts hC hni) rfl (by decide) rfl rfl hv dX17_part_116 ?_
  refine lv_iload hx hb dX17_part_119 (lv_at hl 6 rfl) ?_
  obtain ⟨v3, hv, hw⟩ := sv_bd hw
  refine sv_rlI hx hb hC.1 rfl hR hv dX17_part_121 ?_
  refine lv_istore (lv' := [(10, .int v3), (9, .int s0), (0, .ref x0), (1, .int x1), (2, .int x2), (3, .int x3), (4, .int x4), (5, .int x5), (6, .int x6), (7, .int x7), (8, .int x8)]) hx hb dX17_part_122 hl (by decide) rfl (fun ls hl => ?_)
  refine lv_iload_n hx hb dX17_part_124 rfl (lv_at hl 5 rfl) ?_
  refine lv_iconst (v := 4) hx hb dX17_part_125 (by decide) ?_
  refine lv_icmp_ne (tgt := 155) hx hb dX17_part_126 (by decide) (fun cc => ?_) (fun cc => ?_)
  · have hw := sv_iff cc hw
    refine lv_iload_n hx hb dX17_part_155 rfl (lv_at hl 5 rfl) ?_
    refine lv_iconst (v := 3) hx hb dX17_part_156 (by decide) ?_
    refine lv_icmp_ne (tgt := 186) hx hb dX17_part_157 (by decide) (fun cc => ?_) (fun cc => ?_)
    · have hw := sv_iff cc hw
      refine lv_iload hx hb dX17_part_186 (lv_at hl 1 rfl) ?_
      refine lv_if_eq (tgt := 196) hx hb dX17_part_188 (by decide) (fun cc => ?_) (fun cc => ?_)
      · have hw := sv_ift cc hw
        refine lv_aload_n hx hb dX17_part_196 rfl (lv_at hl 2 rfl) ?_
        obtain ⟨v4, hv, hw⟩ := sv_bd hw
        refine sv_rgP hx hb hown hC.1 hR (fl_X17_part_26 hts hC hni) rfl (by decide) rfl rfl hv dX17_part_197 ?_
        obtain ⟨v5, hv, hw⟩ := sv_bd hw
        refine sv_rgP hx hb hown hC.1 hR (fl_X17_part_221 hts hC hni) rfl (by decide) rfl rfl hv dX17_part_200 ?_
        refine lv_iload hx hb dX17_part_203 (lv_at hl 8 rfl) ?_
        obtain ⟨v6, hv, hw⟩ := sv_bd hw
        refine sv_rlI hx hb hC.1 rfl hR hv dX17_part_205 ?_
        exact lk_X17_part_206 K hw hR hS (lv_sub hl [2, 3, 4, 5, 6, 7, 9] rfl)
      · have hw := sv_iff cc hw
        refine lv_iload hx hb dX17_part_191 (lv_at hl 0 rfl) ?_
        refine lv_goto (tgt := 206) hx hb dX17_part_193 (by decide) ?_
        exact lk_X17_part_206 K hw hR hS (lv_sub hl [2, 3, 4, 5, 6, 7, 9] rfl)
    · have hw := sv_ift cc hw
      refine lv_iload hx hb dX17_part_160 (lv_at hl 1 rfl) ?_
      refine lv_if_eq (tgt := 181) hx hb dX17_part_162 (by decide) (fun cc => ?_) (fun cc => ?_)
      · have hw := sv_ift cc hw
        refine lv_iload hx hb dX17_part_181 (lv_at hl 0 rfl) ?_
        refine lv_goto (tgt := 206) hx hb dX17_part_183 (by decide) ?_
        exact lk_X17_part_206 K hw hR hS (lv_sub hl [2, 3, 4, 5, 6, 7, 9] rfl)
      · have hw := sv_iff cc hw
        refine lv_aload_n hx hb dX17_part_165 rfl (lv_at hl 2 rfl) ?_
        obtain ⟨v7, hv, hw⟩ := sv_bd hw
        refine sv_rgP hx hb hown hC.1 hR (fl_X17_part_26 hts hC hni) rfl (by decide) rfl rfl hv dX17_part_166 ?_
        obtain ⟨v8, hv, hw⟩ := sv_bd hw
        refine sv_rgP hx hb hown hC.1 hR (fl_X17_part_221 hts hC hni) rfl (by decide) rfl rfl hv dX17_part_169 ?_
        refine lv_iload hx hb dX17_part_172 (lv_at hl 7 rfl) ?_
        obtain ⟨v9, hv, hw⟩ := sv_bd hw
        refine sv_rlI hx hb hC.1 rfl hR hv dX17_part_174 ?_
        refine lv_iload hx hb dX17_part_175 (lv_at hl 10 rfl) ?_
        refine lv_iadd hx hb dX17_part_177 ?_
        refine lv_goto (tgt := 206) hx hb dX17_part_178 (by decide) ?_
        exact lk_X17_part_206 K hw hR hS (lv_sub hl [2, 3, 4, 5, 6, 7, 9] rfl)
  · have hw := sv_ift cc hw
    refine lv_iload hx hb dX17_part_129 (lv_at hl 1 rfl) ?_
    refine lv_if_eq (tgt := 139) hx hb dX17_part_131 (by decide) (fun cc => ?_) (fun cc => ?_)
    · have hw := sv_ift cc hw
      refine lv_aload_n hx hb dX17_part_139 rfl (lv_at hl 2 rfl) ?_
      obtain ⟨v10, hv, hw⟩ := sv_bd hw
      refine sv_rgP hx hb hown hC.1 hR (fl_X17_part_26 hts hC hni) rfl (by decide) rfl rfl hv dX17_part_140 ?_
      obtain ⟨v11, hv, hw⟩ := sv_bd hw
      refine sv_rgP hx hb hown hC.1 hR (fl_X17_part_247 hts hC hni) rfl (by decide) rfl rfl hv dX17_part_143 ?_
      refine lv_iload hx hb dX17_part_146 (lv_at hl 8 rfl) ?_
      obtain ⟨v12, hv, hw⟩ := sv_bd hw
      refine sv_rlI hx hb hC.1 rfl hR hv dX17_part_148 ?_
      refine lv_iload hx hb dX17_part_149 (lv_at hl 10 rfl) ?_
      refine lv_iadd hx hb dX17_part_151 ?_
      refine lv_goto (tgt := 206) hx hb dX17_part_152 (by decide) ?_
      exact lk_X17_part_206 K hw hR hS (lv_sub hl [2, 3, 4, 5, 6, 7, 9] rfl)
    · have hw := sv_iff cc hw
      refine lv_iload hx hb dX17_part_134 (lv_at hl 0 rfl) ?_
      refine lv_goto (tgt := 206) hx hb dX17_part_136 (by decide) ?_
      exact lk_X17_part_206 K hw hR hS (lv_sub hl [2, 3, 4, 5, 6, 7, 9] rfl)
set_option maxHeartbeats 4000000 in
set_option maxRecDepth 100000 in
theorem lk_X17_part_101 {p : Program} {l : Launch} {e : Env} {s : State} {m : MethodId} {args : Array Value} {below : List Frame} {meth : Method} {c : Code} {G : sv_G} {B : Nat} (K : sv_W p s m args meth c cX17_part RX17 24 none G B "part") {r : Unit} {hE : sv_H} {x0 : Nat} {x1 : Int32} {x2 : Int32} {x3 : Int32} {x4 : Int32} {x5 : Int32} {x6 : Int32} {x7 : Int32} {x8 : Int32} {s0 : Int32} {s1 : Int32} {h : sv_H} (hw : fn_X17_part_101 x0 x1 x2 x3 x4 x5 x6 x7 x8 s0 s1 h = some (r, hE)) {H : Heap} {locs : List Loc} {ls : Array Slot} (hR : sv_R G vwCl sv_ft B h H) (hS : va_S (fun q => B ≤ q) s.heap H locs) (hl : lv_has ls 24 [(0, .ref x0), (1, .int x1), (2, .int x2), (3, .int x3), (4, .int x4), (5, .int x5), (6, .int x6), (7, .int x7), (8, .int x8)]) : W p l e rm_X17_part s m args below meth c H locs 0 0 (sv_Z below s args G B none hE) (F0 m 101 ls [.int s1, .int s0]) := by
  obtain ⟨hx, hb, hml, hown, hts, hC, hlk, hr, hBs, hni⟩ := id K
  unfold fn_X17_part_101 at hw
  refine lv_iand hx hb dX17_part_101 ?_
  refine lv_if_eq (tgt := 109) hx hb dX17_part_102 (by decide) (fun cc => ?_) (fun cc => ?_)
  · have hw := sv_ift cc hw
    refine lv_iconst (v := 0) hx hb dX17_part_109 (by decide) ?_
    exact lk_X17_part_110 K hw hR hS (lv_sub hl [0, 1, 2, 3, 4, 5, 6, 7, 8] rfl)
  · have hw := sv_iff cc hw
    refine lv_iconst (v := 1) hx hb dX17_part_105 (by decide) ?_
    refine lv_goto (tgt := 110) hx hb dX17_part_106 (by decide) ?_
    exact lk_X17_part_110 K hw hR hS (lv_sub hl [0, 1, 2, 3, 4, 5, 6, 7, 8] rfl)
set_option maxHeartbeats 4000000 in
set_option maxRecDepth 100000 in
theorem lk_X17_part_81 {p : Program} {l : Launch} {e : Env} {s : State} {m : MethodId} {args : Array Value} {below : List Frame} {meth : Method} {c : Code} {G : sv_G} {B : Nat} (K : sv_W p s m args meth c cX17_part RX17 24 none G B "part") {r : Unit} {hE : sv_H} {x0 : Nat} {x1 : Int32} {x2 : Int32} {x3 : Int32} {x4 : Int32} {x5 : Int32} {x6 : Int32} {x7 : Int32} {s0 : Int32} {h : sv_H} (hw : fn_X17_part_81 x0 x1 x2 x3 x4 x5 x6 x7 s0 h = some (r, hE)) {H : Heap} {locs : List Loc} {ls : Array Slot} (hR : sv_R G vwCl sv_ft B h H) (hS : va_S (fun q => B ≤ q) s.heap H locs) (hl : lv_has ls 24 [(0, .ref x0), (1, .int x1), (2, .int x2), (3, .int x3), (4, .int x4), (5, .int x5), (6, .int x6), (7, .int x7)]) : W p l e rm_X17_part s m args below meth c H locs 0 0 (sv_Z below s args G B none hE) (F0 m 81 ls [.int s0]) := by
  obtain ⟨hx, hb, hml, hown, hts, hC, hlk, hr, hBs, hni⟩ := id K
  unfold fn_X17_part_81 at hw
  refine lv_istore (lv' := [(8, .int s0), (0, .ref x0), (1, .int x1), (2, .int x2), (3, .int x3), (4, .int x4), (5, .int x5), (6, .int x6), (7, .int x7)]) hx hb dX17_part_81 hl (by decide) rfl (fun ls hl => ?_)
  refine lv_aload_n hx hb dX17_part_83 rfl (lv_at hl 1 rfl) ?_
  refine lv_iload hx hb dX17_part_84 (lv_at hl 5 rfl) ?_
  refine lv_bipush (v := 12) hx hb dX17_part_86 (by decide) ?_
  obtain ⟨r1, h2, hv1, hw⟩ := sv_b_some hw
  refine sv_call (va_runV (As := [.int x4, .int 12]) (rest := []) ⟨hx, hb, hml, hown, hts⟩ (mt_X17_wallPart l G B hv1) (cwV 2 hts (sv_gV wd_2058 wd_2060 wd_94 wd_144 wd_2061) rfl rfl rfl (by decide +kernel) ⟨Nat.le_of_ble_eq_true rfl, Nat.le_of_ble_eq_true rfl⟩) ⟨sv_blind, sv_recv hC.1 hR (ci := 17) (sv_go hv1).1 (by decide) rfl, fun U hU hW => sv_pre hC hR hS hBs hU hW⟩ rfl rfl hl.1 rfl (lv_room (Nat.le_of_ble_eq_true rfl)) dX17_part_88 ⟨Nat.zero_le _, Nat.zero_le _⟩) hS (fun H locs hR hS => ?_)
  refine lv_iload_n hx hb dX17_part_91 rfl (lv_at hl 4 rfl) ?_
  refine lv_iconst (v := 4) hx hb dX17_part_92 (by decide) ?_
  refine lv_icmp_ne (tgt := 100) hx hb dX17_part_93 (by decide) (fun cc => ?_) (fun cc => ?_)
  · have hw := sv_iff cc hw
    refine lv_iconst (v := 2) hx hb dX17_part_100 (by decide) ?_
    exact lk_X17_part_101 K hw hR hS (lv_sub hl [1, 2, 3, 4, 5, 6, 7, 8, 0] rfl)
  · have hw := sv_ift cc hw
    refine lv_iconst (v := 1) hx hb dX17_part_96 (by decide) ?_
    refine lv_goto (tgt := 101) hx hb dX17_part_97 (by decide) ?_
    exact lk_X17_part_101 K hw hR hS (lv_sub hl [1, 2, 3, 4, 5, 6, 7, 8, 0] rfl)
set_option maxHeartbeats 4000000 in
set_option maxRecDepth 100000 in
theorem lk_X17_part_53 {p : Program} {l : Launch} {e : Env} {s : State} {m : MethodId} {args : Array Value} {below : List Frame} {meth : Method} {c : Code} {G : sv_G} {B : Nat} (K : sv_W p s m args meth c cX17_part RX17 24 none G B "part") {r : Unit} {hE : sv_H} {x0 : Nat} {x1 : Int32} {x2 : Int32} {x3 : Int32} {x4 : Int32} {x5 : Int32} {x6 : Int32} {s0 : Nat} {s1 : Int32} {s2 : Int32} {s3 : Int32} {h : sv_H} (hw : fn_X17_part_53 x0 x1 x2 x3 x4 x5 x6 s0 s1 s2 s3 h = some (r, hE)) {H : Heap} {locs : List Loc} {ls : Array Slot} (hR : sv_R G vwCl sv_ft B h H) (hS : va_S (fun q => B ≤ q) s.heap H locs) (hl : lv_has ls 24 [(0, .ref x0), (1, .int x1), (2, .int x2), (3, .int x3), (4, .int x4), (5, .int x5), (6, .int x6)]) : W p l e rm_X17_part s m args below meth c H locs 0 0 (sv_Z below s args G B none hE) (F0 m 53 ls [.int s3, .int s2, .int s1, .ref s0]) := by
  obtain ⟨hx, hb, hml, hown, hts, hC, hlk, hr, hBs, hni⟩ := id K
  unfold fn_X17_part_53 at hw
  refine lv_iadd hx hb dX17_part_53 ?_
  obtain ⟨r1, h2, hv1, hw⟩ := sv_b_some hw
  refine sv_call (va_runV (As := [.int s1, .int (s2 + s3)]) (rest := []) ⟨hx, hb, hml, hown, hts⟩ (mt_X17_wallPart l G B hv1) (cwV 2 hts (sv_gV wd_2058 wd_2060 wd_94 wd_144 wd_2061) rfl rfl rfl (by decide +kernel) ⟨Nat.le_of_ble_eq_true rfl, Nat.le_of_ble_eq_true rfl⟩) ⟨sv_blind, sv_recv hC.1 hR (ci := 17) (sv_go hv1).1 (by decide) rfl, fun U hU hW => sv_pre hC hR hS hBs hU hW⟩ rfl rfl hl.1 rfl (lv_room (Nat.le_of_ble_eq_true rfl)) dX17_part_54 ⟨Nat.zero_le _, Nat.zero_le _⟩) hS (fun H locs hR hS => ?_)
  refine lv_istore (lv' := [(7, .int r1), (0, .ref x0), (1, .int x1), (2, .int x2), (3, .int x3), (4, .int x4), (5, .int x5), (6, .int x6)]) hx hb dX17_part_57 hl (by decide) rfl (fun ls hl => ?_)
  refine lv_iload hx hb dX17_part_59 (lv_at hl 0 rfl) ?_
  refine lv_sipush (v := 255) hx hb dX17_part_61 (by decide) ?_
  refine lv_icmp_ne (tgt := 71) hx hb dX17_part_64 (by decide) (fun cc => ?_) (fun cc => ?_)
  · have hw := sv_iff cc hw
    refine lv_aload_n hx hb dX17_part_71 rfl (lv_at hl 1 rfl) ?_
    obtain ⟨v3, hv, hw⟩ := sv_bd hw
    refine sv_rgP hx hb hown hC.1 hR (fl_X17_part_10 hts hC hni) rfl (by decide) rfl rfl hv dX17_part_72 ?_
    refine lv_iload hx hb dX17_part_75 (lv_at hl 0 rfl) ?_
    refine lv_iconst (v := 1) hx hb dX17_part_77 (by decide) ?_
    obtain ⟨r4, h5, hv2, hw⟩ := sv_b_some hw
    refine sv_call (va_runV (As := [.int r1, .int 1]) (rest := []) ⟨hx, hb, hml, hown, hts⟩ (mt_X14_texture l G B hv2) (cwV 2 hts (sv_gV wd_2083 wd_2084 wd_2085 wd_145 wd_2086) rfl rfl rfl (by decide +kernel) ⟨Nat.le_of_ble_eq_true rfl, Nat.le_of_ble_eq_true rfl⟩) ⟨sv_blind, sv_recv hC.1 hR (ci := 14) (sv_go hv2).1 (by decide) rfl, fun U hU hW => sv_pre hC hR hS hBs hU hW⟩ rfl rfl hl.1 rfl (lv_room (Nat.le_of_ble_eq_true rfl)) dX17_part_78 ⟨Nat.zero_le _, Nat.zero_le _⟩) hS (fun H locs hR hS => ?_)
    exact lk_X17_part_81 K hw hR hS (lv_sub hl [1, 2, 3, 4, 5, 6, 7, 0] rfl)
  · have hw := sv_ift cc hw
    refine lv_iconst (v := 0) hx hb dX17_part_67 (by decide) ?_
    refine lv_goto (tgt := 81) hx hb dX17_part_68 (by decide) ?_
    exact lk_X17_part_81 K hw hR hS (lv_sub hl [1, 2, 3, 4, 5, 6, 7, 0] rfl)
set_option maxHeartbeats 4000000 in
set_option maxRecDepth 100000 in
theorem lk_X17_part_34 {p : Program} {l : Launch} {e : Env} {s : State} {m : MethodId} {args : Array Value} {below : List Frame} {meth : Method} {c : Code} {G : sv_G} {B : Nat} (K : sv_W p s m args meth c cX17_part RX17 24 none G B "part") {r : Unit} {hE : sv_H} {x0 : Nat} {x1 : Int32} {x2 : Int32} {x3 : Int32} {x4 : Int32} {x5 : Int32} {x6 : Int32} {s0 : Nat} {s1 : Int32} {s2 : Int32} {h : sv_H} (hw : fn_X17_part_34 x0 x1 x2 x3 x4 x5 x6 s0 s1 s2 h = some (r, hE)) {H : Heap} {locs : List Loc} {ls : Array Slot} (hR : sv_R G vwCl sv_ft B h H) (hS : va_S (fun q => B ≤ q) s.heap H locs) (hl : lv_has ls 24 [(0, .ref x0), (1, .int x1), (2, .int x2), (3, .int x3), (4, .int x4), (5, .int x5), (6, .int x6)]) : W p l e rm_X17_part s m args below meth c H locs 0 0 (sv_Z below s args G B none hE) (F0 m 34 ls [.int s2, .int s1, .ref s0]) := by
  obtain ⟨hx, hb, hml, hown, hts, hC, hlk, hr, hBs, hni⟩ := id K
  unfold fn_X17_part_34 at hw
  refine lv_iload_n hx hb dX17_part_34 rfl (lv_at hl 3 rfl) ?_
  refine lv_iconst (v := 4) hx hb dX17_part_35 (by decide) ?_
  refine lv_icmp_ne (tgt := 43) hx hb dX17_part_36 (by decide) (fun cc => ?_) (fun cc => ?_)
  · have hw := sv_iff cc hw
    refine lv_iload_n hx hb dX17_part_43 rfl (lv_at hl 3 rfl) ?_
    refine lv_iconst (v := 3) hx hb dX17_part_44 (by decide) ?_
    refine lv_icmp_ne (tgt := 52) hx hb dX17_part_45 (by decide) (fun cc => ?_) (fun cc => ?_)
    · have hw := sv_iff cc hw
      refine lv_iconst (v := 2) hx hb dX17_part_52 (by decide) ?_
      exact lk_X17_part_53 K hw hR hS (lv_sub hl [0, 1, 2, 3, 4, 5, 6] rfl)
    · have hw := sv_ift cc hw
      refine lv_iconst (v := 1) hx hb dX17_part_48 (by decide) ?_
      refine lv_goto (tgt := 53) hx hb dX17_part_49 (by decide) ?_
      exact lk_X17_part_53 K hw hR hS (lv_sub hl [0, 1, 2, 3, 4, 5, 6] rfl)
  · have hw := sv_ift cc hw
    refine lv_iconst (v := 0) hx hb dX17_part_39 (by decide) ?_
    refine lv_goto (tgt := 53) hx hb dX17_part_40 (by decide) ?_
    exact lk_X17_part_53 K hw hR hS (lv_sub hl [0, 1, 2, 3, 4, 5, 6] rfl)
set_option maxHeartbeats 4000000 in
set_option maxRecDepth 100000 in
theorem lk_X17_part_0 {p : Program} {l : Launch} {e : Env} {s : State} {m : MethodId} {args : Array Value} {below : List Frame} {meth : Method} {c : Code} {G : sv_G} {B : Nat} (K : sv_W p s m args meth c cX17_part RX17 24 none G B "part") {r : Unit} {hE : sv_H} {x0 : Nat} {x1 : Int32} {x2 : Int32} {x3 : Int32} {x4 : Int32} {h : sv_H} (hw : fn_X17_part x0 x1 x2 x3 x4 h = some (r, hE)) {H : Heap} {locs : List Loc} {ls : Array Slot} (hR : sv_R G vwCl sv_ft B h H) (hS : va_S (fun q => B ≤ q) s.heap H locs) (hl : lv_has ls 24 [(0, .ref x0), (1, .int x1), (2, .int x2), (3, .int x3), (4, .int x4)]) : W p l e rm_X17_part s m args below meth c H locs 0 0 (sv_Z below s args G B none hE) (F0 m 0 ls []) := by
  obtain ⟨hx, hb, hml, hown, hts, hC, hlk, hr, hBs, hni⟩ := id K
  unfold fn_X17_part at hw
  have hw := (sv_go hw).2
  refine lv_aload_n hx hb dX17_part_0 rfl (lv_at hl 0 rfl) ?_
  refine lv_iload hx hb dX17_part_1 (lv_at hl 4 rfl) ?_
  refine lv_iconst (v := 1) hx hb dX17_part_3 (by decide) ?_
  obtain ⟨r1, h2, hv1, hw⟩ := sv_b_some hw
  refine sv_call (va_runV (As := [.int x4, .int 1]) (rest := []) ⟨hx, hb, hml, hown, hts⟩ (mt_X17_sideOf l G B hv1) (cwV 2 hts (sv_gV wd_2054 wd_2056 wd_93 wd_144 wd_2057) rfl rfl rfl (by decide +kernel) ⟨Nat.le_of_ble_eq_true rfl, Nat.le_of_ble_eq_true rfl⟩) ⟨sv_blind, sv_recv hC.1 hR (ci := 17) (sv_go hv1).1 (by decide) rfl, fun U hU hW => sv_pre hC hR hS hBs hU hW⟩ rfl rfl hl.1 rfl (lv_room (Nat.le_of_ble_eq_true rfl)) dX17_part_4 ⟨Nat.zero_le _, Nat.zero_le _⟩) hS (fun H locs hR hS => ?_)
  refine lv_istore (lv' := [(5, .int r1), (0, .ref x0), (1, .int x1), (2, .int x2), (3, .int x3), (4, .int x4)]) hx hb dX17_part_7 hl (by decide) rfl (fun ls hl => ?_)
  refine lv_aload_n hx hb dX17_part_9 rfl (lv_at hl 1 rfl) ?_
  refine lv_iload hx hb dX17_part_10 (lv_at hl 5 rfl) ?_
  refine lv_iconst (v := 0) hx hb dX17_part_12 (by decide) ?_
  obtain ⟨r3, h4, hv2, hw⟩ := sv_b_some hw
  refine sv_call (va_runV (As := [.int x4, .int 0]) (rest := []) ⟨hx, hb, hml, hown, hts⟩ (mt_X17_sideOf l G B hv2) (cwV 2 hts (sv_gV wd_2054 wd_2056 wd_93 wd_144 wd_2057) rfl rfl rfl (by decide +kernel) ⟨Nat.le_of_ble_eq_true rfl, Nat.le_of_ble_eq_true rfl⟩) ⟨sv_blind, sv_recv hC.1 hR (ci := 17) (sv_go hv2).1 (by decide) rfl, fun U hU hW => sv_pre hC hR hS hBs hU hW⟩ rfl rfl hl.1 rfl (lv_room (Nat.le_of_ble_eq_true rfl)) dX17_part_13 ⟨Nat.zero_le _, Nat.zero_le _⟩) hS (fun H locs hR hS => ?_)
  refine lv_istore (lv' := [(6, .int r3), (5, .int r1), (0, .ref x0), (1, .int x1), (2, .int x2), (3, .int x3), (4, .int x4)]) hx hb dX17_part_16 hl (by decide) rfl (fun ls hl => ?_)
  refine lv_aload_n hx hb dX17_part_18 rfl (lv_at hl 2 rfl) ?_
  refine lv_iload hx hb dX17_part_19 (lv_at hl 6 rfl) ?_
  refine lv_aload_n hx hb dX17_part_21 rfl (lv_at hl 2 rfl) ?_
  obtain ⟨v5, hv, hw⟩ := sv_bd hw
  refine sv_rgI hx hb hown hC.1 hR (fl_X17_part_204 hts hC hni) rfl (by decide) rfl rfl hv dX17_part_22 ?_
  refine lv_if_eq (tgt := 32) hx hb dX17_part_25 (by decide) (fun cc => ?_) (fun cc => ?_)
  · have hw := sv_ift cc hw
    refine lv_bipush (v := 7) hx hb dX17_part_32 (by decide) ?_
    exact lk_X17_part_34 K hw hR hS (lv_sub hl [2, 3, 4, 5, 6, 1, 0] rfl)
  · have hw := sv_iff cc hw
    refine lv_iconst (v := 4) hx hb dX17_part_28 (by decide) ?_
    refine lv_goto (tgt := 34) hx hb dX17_part_29 (by decide) ?_
    exact lk_X17_part_34 K hw hR hS (lv_sub hl [2, 3, 4, 5, 6, 1, 0] rfl)
set_option maxHeartbeats 4000000 in
set_option maxRecDepth 100000 in
theorem mt_X17_part (l : Launch) (G : sv_G) (B : Nat) {x0 : Nat} {x1 : Int32} {x2 : Int32} {x3 : Int32} {x4 : Int32} {h : sv_H} {r : Unit} {hE : sv_H} (hw : fn_X17_part x0 x1 x2 x3 x4 h = some (r, hE)) : Met l yX17_part (.code yX17_part cX17_part 24 none :: sv_tb) rm_X17_part (sv_Pc G B [.ref x0, .int x1, .int x2, .int x3, .int x4] h) (sv_Q G B none hE) 0 0 (fun q => B ≤ q) := by
  refine Met.ofW (cc := cX17_part) (maxL := 24) (ret := none) (by decide +kernel) rfl ?_
  intro p e s m args below meth c s₁ Bd hml hv
  obtain ⟨rfl, hR, hC, hB⟩ := hv
  have hl := lv_entry ([.ref x0, .int x1, .int x2, .int x3, .int x4]) (n := 24) (Nat.le_of_ble_eq_true rfl)
  rw [lg_entry_eq]
  generalize (lg_sl ([.ref x0, .int x1, .int x2, .int x3, .int x4]) ++ List.replicate (24 - (lg_sl ([.ref x0, .int x1, .int x2, .int x3, .int x4])).length) Slot.unset).toArray = ls at hl ⊢
  have hl : lv_has ls 24 [(0, .ref x0), (1, .int x1), (2, .int x2), (3, .int x3), (4, .int x4)] := hl
  exact lk_X17_part_0 ⟨Bd.exec, Bd.bytes, hml, findClass_of_methodNamed Bd.named, fun w h => atoms_spec (ws := .code yX17_part cX17_part 24 none :: sv_tb) Bd.pre w (List.mem_cons_of_mem _ h), hC, Bd.notSynchronized, Bd.returns, hB, (name_of_methodNamed Bd.named Bd.method).1⟩ hw hR va_S.rf hl

def rm_X17_column : Room := { frames := 8, cells := 0, slots := 0, locals := 197 }
theorem fl_X17_column_26 {s : State} {meth : Method} {args : Array Value} {G : sv_G} {B : Nat} (hts : ∀ w ∈ sv_tb, w.before args s = true) (hC : sv_Cx G B s s.heap) (hni : meth.name = "column") : sv_FL s meth args vwCl RX17 26 17 3 (.object "SectorViewModel$Hall") false :=
  ⟨_, RX17, TX17, 29, sv_tb, tyX17, rfl, by decide, hts, uw_X17, Or.inl (hts _ wd_1694), fun _ h => h, tyX17_ok 3 (by decide), tyX17_ok, nmX17, fun h => by cases h⟩
theorem fl_X17_column_221 {s : State} {meth : Method} {args : Array Value} {G : sv_G} {B : Nat} (hts : ∀ w ∈ sv_tb, w.before args s = true) (hC : sv_Cx G B s s.heap) (hni : meth.name = "column") : sv_FL s meth args vwCl RX17 221 13 8 (.array .int) false :=
  ⟨_, RX13, TX13, 18, sv_tb, tyX13, rfl, by decide, hts, uw_X13, Or.inr ⟨"SectorViewModel", Or.inr ⟨rfl, va_Nw.use rfl (hC.2.1 (.fieldLinkNest "SectorViewModel" 221 "SectorViewModel$Hall" "floors" "[I" "SectorViewModel") (by decide +kernel))⟩⟩, fun _ h => h, tyX13_ok 8 (by decide), tyX13_ok, nmX13, fun h => by cases h⟩
theorem fl_X17_column_207 {s : State} {meth : Method} {args : Array Value} {G : sv_G} {B : Nat} (hts : ∀ w ∈ sv_tb, w.before args s = true) (hC : sv_Cx G B s s.heap) (hni : meth.name = "column") : sv_FL s meth args vwCl RX17 207 17 21 .int true :=
  ⟨_, RX17, TX17, 29, sv_tb, tyX17, rfl, by decide, hts, uw_X17, Or.inl (hts _ wd_1712), fun _ h => h, tyX17_ok 21 (by decide), tyX17_ok, nmX17, fun _ => Or.inl rfl⟩
theorem fl_X17_column_45 {s : State} {meth : Method} {args : Array Value} {G : sv_G} {B : Nat} (hts : ∀ w ∈ sv_tb, w.before args s = true) (hC : sv_Cx G B s s.heap) (hni : meth.name = "column") : sv_FL s meth args vwCl RX17 45 17 20 (.array .int) false :=
  ⟨_, RX17, TX17, 29, sv_tb, tyX17, rfl, by decide, hts, uw_X17, Or.inl (hts _ wd_1711), fun _ h => h, tyX17_ok 20 (by decide), tyX17_ok, nmX17, fun h => by cases h⟩
theorem fl_X17_column_48 {s : State} {meth : Method} {args : Array Value} {G : sv_G} {B : Nat} (hts : ∀ w ∈ sv_tb, w.before args s = true) (hC : sv_Cx G B s s.heap) (hni : meth.name = "column") : sv_FL s meth args vwCl RX17 48 17 22 (.array .int) false :=
  ⟨_, RX17, TX17, 29, sv_tb, tyX17, rfl, by decide, hts, uw_X17, Or.inl (hts _ wd_1713), fun _ h => h, tyX17_ok 22 (by decide), tyX17_ok, nmX17, fun h => by cases h⟩
theorem fl_X17_column_279 {s : State} {meth : Method} {args : Array Value} {G : sv_G} {B : Nat} (hts : ∀ w ∈ sv_tb, w.before args s = true) (hC : sv_Cx G B s s.heap) (hni : meth.name = "column") : sv_FL s meth args vwCl RX17 279 17 23 .int true :=
  ⟨_, RX17, TX17, 29, sv_tb, tyX17, rfl, by decide, hts, uw_X17, Or.inl (hts _ wd_1714), fun _ h => h, tyX17_ok 23 (by decide), tyX17_ok, nmX17, fun _ => Or.inl rfl⟩
theorem fl_X17_column_247 {s : State} {meth : Method} {args : Array Value} {G : sv_G} {B : Nat} (hts : ∀ w ∈ sv_tb, w.before args s = true) (hC : sv_Cx G B s s.heap) (hni : meth.name = "column") : sv_FL s meth args vwCl RX17 247 13 9 (.array .int) false :=
  ⟨_, RX13, TX13, 18, sv_tb, tyX13, rfl, by decide, hts, uw_X13, Or.inr ⟨"SectorViewModel", Or.inr ⟨rfl, va_Nw.use rfl (hC.2.1 (.fieldLinkNest "SectorViewModel" 247 "SectorViewModel$Hall" "ceilings" "[I" "SectorViewModel") (by decide +kernel))⟩⟩, fun _ h => h, tyX13_ok 9 (by decide), tyX13_ok, nmX13, fun h => by cases h⟩
theorem fl_X17_column_51 {s : State} {meth : Method} {args : Array Value} {G : sv_G} {B : Nat} (hts : ∀ w ∈ sv_tb, w.before args s = true) (hC : sv_Cx G B s s.heap) (hni : meth.name = "column") : sv_FL s meth args vwCl RX17 51 17 24 (.array .int) false :=
  ⟨_, RX17, TX17, 29, sv_tb, tyX17, rfl, by decide, hts, uw_X17, Or.inl (hts _ wd_1715), fun _ h => h, tyX17_ok 24 (by decide), tyX17_ok, nmX17, fun h => by cases h⟩
theorem fl_X17_column_54 {s : State} {meth : Method} {args : Array Value} {G : sv_G} {B : Nat} (hts : ∀ w ∈ sv_tb, w.before args s = true) (hC : sv_Cx G B s s.heap) (hni : meth.name = "column") : sv_FL s meth args vwCl RX17 54 17 25 (.array .int) false :=
  ⟨_, RX17, TX17, 29, sv_tb, tyX17, rfl, by decide, hts, uw_X17, Or.inl (hts _ wd_1716), fun _ h => h, tyX17_ok 25 (by decide), tyX17_ok, nmX17, fun h => by cases h⟩
theorem fl_X17_column_265 {s : State} {meth : Method} {args : Array Value} {G : sv_G} {B : Nat} (hts : ∀ w ∈ sv_tb, w.before args s = true) (hC : sv_Cx G B s s.heap) (hni : meth.name = "column") : sv_FL s meth args vwCl RX17 265 17 13 .int true :=
  ⟨_, RX17, TX17, 29, sv_tb, tyX17, rfl, by decide, hts, uw_X17, Or.inl (hts _ wd_1704), fun _ h => h, tyX17_ok 13 (by decide), tyX17_ok, nmX17, fun _ => Or.inl rfl⟩
set_option maxHeartbeats 4000000 in
set_option maxRecDepth 100000 in
theorem lk_X17_column_399 {p : Program} {l : Launch} {e : Env} {s : State} {m : MethodId} {args : Array Value} {below : List Frame} {meth : Method} {c : Code} {G : sv_G} {B : Nat} (K : sv_W p s m args meth c cX17_column RX17 13 none G B "column") {r : Unit} {hE : sv_H} {h : sv_H} (hw : fn_X17_column_399 h = some (r, hE)) {H : Heap} {locs : List Loc} {ls : Array Slot} (hR : sv_R G vwCl sv_ft B h H) (hS : va_S (fun q => B ≤ q) s.heap H locs) (hl : lv_has ls 13 []) : W p l e rm_X17_column s m args below meth c H locs 0 0 (sv_Z below s args G B none hE) (F0 m 399 ls []) := by
  obtain ⟨hx, hb, hml, hown, hts, hC, hlk, hr, hBs, hni⟩ := id K
  unfold fn_X17_column_399 at hw
  obtain ⟨rfl, rfl⟩ := sv_ret hw
  exact W.vret hx hb hr (fun t ht hW => ⟨⟨rfl, by rw [ht]; exact hR⟩, hS.F ht⟩) hS.2.2 dX17_column_399
set_option maxHeartbeats 4000000 in
set_option maxRecDepth 100000 in
theorem lk_X17_column_393 {p : Program} {l : Launch} {e : Env} {s : State} {m : MethodId} {args : Array Value} {below : List Frame} {meth : Method} {c : Code} {G : sv_G} {B : Nat} (K : sv_W p s m args meth c cX17_column RX17 13 none G B "column") {r : Unit} {hE : sv_H} {k113 : Nat → Int32 → Int32 → Int32 → sv_H → Option (Unit × sv_H)} (hk113 : ∀ {x0 : Nat} {x2 : Int32} {x3 : Int32} {x4 : Int32} {h : sv_H}, k113 x0 x2 x3 x4 h = some (r, hE) → ∀ {H : Heap} {locs : List Loc} {ls : Array Slot}, sv_R G vwCl sv_ft B h H → va_S (fun q => B ≤ q) s.heap H locs → lv_has ls 13 [(0, .ref x0), (2, .int x2), (3, .int x3), (4, .int x4)] → W p l e rm_X17_column s m args below meth c H locs 0 0 (sv_Z below s args G B none hE) (F0 m 113 ls [])) {x0 : Nat} {x2 : Int32} {x3 : Int32} {x4 : Int32} {h : sv_H} (hw : fn_X17_column_393 k113 x0 x2 x3 x4 h = some (r, hE)) {H : Heap} {locs : List Loc} {ls : Array Slot} (hR : sv_R G vwCl sv_ft B h H) (hS : va_S (fun q => B ≤ q) s.heap H locs) (hl : lv_has ls 13 [(0, .ref x0), (2, .int x2), (3, .int x3), (4, .int x4)]) : W p l e rm_X17_column s m args below meth c H locs 0 0 (sv_Z below s args G B none hE) (F0 m 393 ls []) := by
  obtain ⟨hx, hb, hml, hown, hts, hC, hlk, hr, hBs, hni⟩ := id K
  unfold fn_X17_column_393 at hw
  refine lv_iinc (v := x4 + 1) (lv' := [(4, .int (x4 + 1)), (0, .ref x0), (2, .int x2), (3, .int x3)]) hx hb dX17_column_393 hl (k := 3) rfl rfl (by decide) rfl (fun ls hl => ?_)
  refine lv_goto (tgt := 113) hx hb dX17_column_396 (by decide) ?_
  exact hk113 hw hR hS (lv_sub hl [1, 2, 3, 0] rfl)
set_option maxHeartbeats 4000000 in
set_option maxRecDepth 100000 in
theorem lk_X17_column_363 {p : Program} {l : Launch} {e : Env} {s : State} {m : MethodId} {args : Array Value} {below : List Frame} {meth : Method} {c : Code} {G : sv_G} {B : Nat} (K : sv_W p s m args meth c cX17_column RX17 13 none G B "column") {r : Unit} {hE : sv_H} {k113 : Nat → Int32 → Int32 → Int32 → sv_H → Option (Unit × sv_H)} (hk113 : ∀ {x0 : Nat} {x2 : Int32} {x3 : Int32} {x4 : Int32} {h : sv_H}, k113 x0 x2 x3 x4 h = some (r, hE) → ∀ {H : Heap} {locs : List Loc} {ls : Array Slot}, sv_R G vwCl sv_ft B h H → va_S (fun q => B ≤ q) s.heap H locs → lv_has ls 13 [(0, .ref x0), (2, .int x2), (3, .int x3), (4, .int x4)] → W p l e rm_X17_column s m args below meth c H locs 0 0 (sv_Z below s args G B none hE) (F0 m 113 ls [])) {x0 : Nat} {x4 : Int32} {x5 : Int32} {x9 : Int32} {x10 : Int32} {x11 : Int32} {s0 : Int32} {h : sv_H} (hw : fn_X17_column_363 k113 x0 x4 x5 x9 x10 x11 s0 h = some (r, hE)) {H : Heap} {locs : List Loc} {ls : Array Slot} (hR : sv_R G vwCl sv_ft B h H) (hS : va_S (fun q => B ≤ q) s.heap H locs) (hl : lv_has ls 13 [(0, .ref x0), (4, .int x4), (5, .int x5), (9, .int x9), (10, .int x10), (11, .int x11)]) : W p l e rm_X17_column s m args below meth c H locs 0 0 (sv_Z below s args G B none hE) (F0 m 363 ls [.int s0]) := by
  obtain ⟨hx, hb, hml, hown, hts, hC, hlk, hr, hBs, hni⟩ := id K
  unfold fn_X17_column_363 at hw
  refine lv_istore (lv' := [(12, .int s0), (0, .ref x0), (4, .int x4), (5, .int x5), (9, .int x9), (10, .int x10), (11, .int x11)]) hx hb dX17_column_363 hl (by decide) rfl (fun ls hl => ?_)
  refine lv_aload_n hx hb dX17_column_365 rfl (lv_at hl 1 rfl) ?_
  refine lv_iload hx hb dX17_column_366 (lv_at hl 4 rfl) ?_
  refine lv_iload hx hb dX17_column_368 (lv_at hl 6 rfl) ?_
  refine lv_iconst (v := 4) hx hb dX17_column_370 (by decide) ?_
  refine lv_iload hx hb dX17_column_371 (lv_at hl 3 rfl) ?_
  obtain ⟨_, h1, hv1, hw⟩ := sv_b_some hw
  refine sv_call (va_runV (As := [.int x9, .int x11, .int 4, .int x5]) (rest := []) ⟨hx, hb, hml, hown, hts⟩ (mt_X17_part l G B hv1) (cwV 4 hts (sv_gV wd_2119 wd_2121 wd_105 wd_144 wd_2122) rfl rfl rfl (by decide +kernel) ⟨Nat.le_of_ble_eq_true rfl, Nat.le_of_ble_eq_true rfl⟩) ⟨sv_blind, sv_recv hC.1 hR (ci := 17) (sv_go hv1).1 (by decide) rfl, fun U hU hW => sv_pre hC hR hS hBs hU hW⟩ rfl rfl hl.1 rfl (lv_room (Nat.le_of_ble_eq_true rfl)) dX17_column_373 ⟨Nat.zero_le _, Nat.zero_le _⟩) hS (fun H locs hR hS => ?_)
  refine lv_aload_n hx hb dX17_column_376 rfl (lv_at hl 1 rfl) ?_
  refine lv_iload hx hb dX17_column_377 (lv_at hl 0 rfl) ?_
  refine lv_iload hx hb dX17_column_379 (lv_at hl 5 rfl) ?_
  refine lv_iconst (v := 5) hx hb dX17_column_381 (by decide) ?_
  refine lv_iload hx hb dX17_column_382 (lv_at hl 3 rfl) ?_
  obtain ⟨_, h2, hv2, hw⟩ := sv_b_some hw
  refine sv_call (va_runV (As := [.int s0, .int x10, .int 5, .int x5]) (rest := []) ⟨hx, hb, hml, hown, hts⟩ (mt_X17_part l G B hv2) (cwV 4 hts (sv_gV wd_2119 wd_2121 wd_105 wd_144 wd_2122) rfl rfl rfl (by decide +kernel) ⟨Nat.le_of_ble_eq_true rfl, Nat.le_of_ble_eq_true rfl⟩) ⟨sv_blind, sv_recv hC.1 hR (ci := 17) (sv_go hv2).1 (by decide) rfl, fun U hU hW => sv_pre hC hR hS hBs hU hW⟩ rfl rfl hl.1 rfl (lv_room (Nat.le_of_ble_eq_true rfl)) dX17_column_384 ⟨Nat.zero_le _, Nat.zero_le _⟩) hS (fun H locs hR hS => ?_)
  refine lv_iload hx hb dX17_column_387 (lv_at hl 6 rfl) ?_
  refine lv_istore_n (lv' := [(2, .int x11), (12, .int s0), (0, .ref x0), (4, .int x4), (5, .int x5), (9, .int x9), (10, .int x10), (11, .int x11)]) hx hb dX17_column_389 rfl hl (by decide) rfl (fun ls hl => ?_)
  refine lv_iload hx hb dX17_column_390 (lv_at hl 1 rfl) ?_
  refine lv_istore_n (lv' := [(3, .int s0), (2, .int x11), (12, .int s0), (0, .ref x0), (4, .int x4), (5, .int x5), (9, .int x9), (10, .int x10), (11, .int x11)]) hx hb dX17_column_392 rfl hl (by decide) rfl (fun ls hl => ?_)
  exact lk_X17_column_393 K hk113 hw hR hS (lv_sub hl [3, 1, 0, 4] rfl)
set_option maxHeartbeats 4000000 in
set_option maxRecDepth 100000 in
theorem lk_X17_column_315 {p : Program} {l : Launch} {e : Env} {s : State} {m : MethodId} {args : Array Value} {below : List Frame} {meth : Method} {c : Code} {G : sv_G} {B : Nat} (K : sv_W p s m args meth c cX17_column RX17 13 none G B "column") {r : Unit} {hE : sv_H} {k113 : Nat → Int32 → Int32 → Int32 → sv_H → Option (Unit × sv_H)} (hk113 : ∀ {x0 : Nat} {x2 : Int32} {x3 : Int32} {x4 : Int32} {h : sv_H}, k113 x0 x2 x3 x4 h = some (r, hE) → ∀ {H : Heap} {locs : List Loc} {ls : Array Slot}, sv_R G vwCl sv_ft B h H → va_S (fun q => B ≤ q) s.heap H locs → lv_has ls 13 [(0, .ref x0), (2, .int x2), (3, .int x3), (4, .int x4)] → W p l e rm_X17_column s m args below meth c H locs 0 0 (sv_Z below s args G B none hE) (F0 m 113 ls [])) {x0 : Nat} {x4 : Int32} {x5 : Int32} {x7 : Int32} {x8 : Int32} {x9 : Int32} {x10 : Int32} {s0 : Int32} {h : sv_H} (hw : fn_X17_column_315 k113 x0 x4 x5 x7 x8 x9 x10 s0 h = some (r, hE)) {H : Heap} {locs : List Loc} {ls : Array Slot} (hR : sv_R G vwCl sv_ft B h H) (hS : va_S (fun q => B ≤ q) s.heap H locs) (hl : lv_has ls 13 [(0, .ref x0), (4, .int x4), (5, .int x5), (7, .int x7), (8, .int x8), (9, .int x9), (10, .int x10)]) : W p l e rm_X17_column s m args below meth c H locs 0 0 (sv_Z below s args G B none hE) (F0 m 315 ls [.int s0]) := by
  obtain ⟨hx, hb, hml, hown, hts, hC, hlk, hr, hBs, hni⟩ := id K
  unfold fn_X17_column_315 at hw
  refine lv_istore (lv' := [(11, .int s0), (0, .ref x0), (4, .int x4), (5, .int x5), (7, .int x7), (8, .int x8), (9, .int x9), (10, .int x10)]) hx hb dX17_column_315 hl (by decide) rfl (fun ls hl => ?_)
  refine lv_aload_n hx hb dX17_column_317 rfl (lv_at hl 1 rfl) ?_
  obtain ⟨v1, hv, hw⟩ := sv_bd hw
  refine sv_rgP hx hb hown hC.1 hR (fl_X17_column_26 hts hC hni) rfl (by decide) rfl rfl hv dX17_column_318 ?_
  obtain ⟨v2, hv, hw⟩ := sv_bd hw
  refine sv_rgP hx hb hown hC.1 hR (fl_X17_column_221 hts hC hni) rfl (by decide) rfl rfl hv dX17_column_321 ?_
  refine lv_iload hx hb dX17_column_324 (lv_at hl 5 rfl) ?_
  obtain ⟨v3, hv, hw⟩ := sv_bd hw
  refine sv_rlI hx hb hC.1 rfl hR hv dX17_column_326 ?_
  refine lv_aload_n hx hb dX17_column_327 rfl (lv_at hl 1 rfl) ?_
  obtain ⟨v4, hv, hw⟩ := sv_bd hw
  refine sv_rgP hx hb hown hC.1 hR (fl_X17_column_26 hts hC hni) rfl (by decide) rfl rfl hv dX17_column_328 ?_
  obtain ⟨v5, hv, hw⟩ := sv_bd hw
  refine sv_rgP hx hb hown hC.1 hR (fl_X17_column_221 hts hC hni) rfl (by decide) rfl rfl hv dX17_column_331 ?_
  refine lv_iload hx hb dX17_column_334 (lv_at hl 4 rfl) ?_
  obtain ⟨v6, hv, hw⟩ := sv_bd hw
  refine sv_rlI hx hb hC.1 rfl hR hv dX17_column_336 ?_
  refine lv_icmp_le (tgt := 361) hx hb dX17_column_337 (by decide) (fun cc => ?_) (fun cc => ?_)
  · have hw := sv_ift cc hw
    refine lv_iload hx hb dX17_column_361 (lv_at hl 7 rfl) ?_
    exact lk_X17_column_363 K hk113 hw hR hS (lv_sub hl [1, 2, 3, 6, 7, 0] rfl)
  · have hw := sv_iff cc hw
    refine lv_aload_n hx hb dX17_column_340 rfl (lv_at hl 1 rfl) ?_
    refine lv_aload_n hx hb dX17_column_341 rfl (lv_at hl 1 rfl) ?_
    obtain ⟨v7, hv, hw⟩ := sv_bd hw
    refine sv_rgP hx hb hown hC.1 hR (fl_X17_column_26 hts hC hni) rfl (by decide) rfl rfl hv dX17_column_342 ?_
    obtain ⟨v8, hv, hw⟩ := sv_bd hw
    refine sv_rgP hx hb hown hC.1 hR (fl_X17_column_221 hts hC hni) rfl (by decide) rfl rfl hv dX17_column_345 ?_
    refine lv_iload hx hb dX17_column_348 (lv_at hl 5 rfl) ?_
    obtain ⟨v9, hv, hw⟩ := sv_bd hw
    refine sv_rlI hx hb hC.1 rfl hR hv dX17_column_350 ?_
    refine lv_iload hx hb dX17_column_351 (lv_at hl 0 rfl) ?_
    refine lv_iload hx hb dX17_column_353 (lv_at hl 7 rfl) ?_
    obtain ⟨r10, h11, hv1, hw⟩ := sv_b_some hw
    refine sv_call (va_runV (As := [.int v9, .int s0, .int x10]) (rest := []) ⟨hx, hb, hml, hown, hts⟩ (mt_X17_rowOf l G B hv1) (cwV 3 hts (sv_gV wd_2062 wd_2064 wd_95 wd_144 wd_2065) rfl rfl rfl (by decide +kernel) ⟨Nat.le_of_ble_eq_true rfl, Nat.le_of_ble_eq_true rfl⟩) ⟨sv_blind, sv_recv hC.1 hR (ci := 17) (sv_go hv1).1 (by decide) rfl, fun U hU hW => sv_pre hC hR hS hBs hU hW⟩ rfl rfl hl.1 rfl (lv_room (Nat.le_of_ble_eq_true rfl)) dX17_column_355 ⟨Nat.zero_le _, Nat.zero_le _⟩) hS (fun H locs hR hS => ?_)
    refine lv_goto (tgt := 363) hx hb dX17_column_358 (by decide) ?_
    exact lk_X17_column_363 K hk113 hw hR hS (lv_sub hl [1, 2, 3, 6, 7, 0] rfl)
set_option maxHeartbeats 4000000 in
set_option maxRecDepth 100000 in
theorem lk_X17_column_113b {p : Program} {l : Launch} {e : Env} {s : State} {m : MethodId} {args : Array Value} {below : List Frame} {meth : Method} {c : Code} {G : sv_G} {B : Nat} (K : sv_W p s m args meth c cX17_column RX17 13 none G B "column") {r : Unit} {hE : sv_H} {k113 : Nat → Int32 → Int32 → Int32 → sv_H → Option (Unit × sv_H)} (hk113 : ∀ {x0 : Nat} {x2 : Int32} {x3 : Int32} {x4 : Int32} {h : sv_H}, k113 x0 x2 x3 x4 h = some (r, hE) → ∀ {H : Heap} {locs : List Loc} {ls : Array Slot}, sv_R G vwCl sv_ft B h H → va_S (fun q => B ≤ q) s.heap H locs → lv_has ls 13 [(0, .ref x0), (2, .int x2), (3, .int x3), (4, .int x4)] → W p l e rm_X17_column s m args below meth c H locs 0 0 (sv_Z below s args G B none hE) (F0 m 113 ls [])) {x0 : Nat} {x2 : Int32} {x3 : Int32} {x4 : Int32} {h : sv_H} (hw : fn_X17_column_113b k113 x0 x2 x3 x4 h = some (r, hE)) {H : Heap} {locs : List Loc} {ls : Array Slot} (hR : sv_R G vwCl sv_ft B h H) (hS : va_S (fun q => B ≤ q) s.heap H locs) (hl : lv_has ls 13 [(0, .ref x0), (2, .int x2), (3, .int x3), (4, .int x4)]) : W p l e rm_X17_column s m args below meth c H locs 0 0 (sv_Z below s args G B none hE) (F0 m 113 ls []) := by
  obtain ⟨hx, hb, hml, hown, hts, hC, hlk, hr, hBs, hni⟩ := id K
  unfold fn_X17_column_113b at hw
  refine lv_iload hx hb dX17_column_113 (lv_at hl 3 rfl) ?_
  refine lv_aload_n hx hb dX17_column_115 rfl (lv_at hl 0 rfl) ?_
  obtain ⟨v1, hv, hw⟩ := sv_bd hw
  refine sv_rgI hx hb hown hC.1 hR (fl_X17_column_207 hts hC hni) rfl (by decide) rfl rfl hv dX17_column_116 ?_
  refine lv_icmp_ge (tgt := 399) hx hb dX17_column_119 (by decide) (fun cc => ?_) (fun cc => ?_)
  · have hw := sv_ift cc hw
    exact lk_X17_column_399 K hw hR hS (lv_sub hl [] rfl)
  · have hw := sv_iff cc hw
    refine lv_iload_n hx hb dX17_column_122 rfl (lv_at hl 1 rfl) ?_
    refine lv_iload_n hx hb dX17_column_123 rfl (lv_at hl 2 rfl) ?_
    refine lv_icmp_ge (tgt := 399) hx hb dX17_column_124 (by decide) (fun cc => ?_) (fun cc => ?_)
    · have hw := sv_ift cc hw
      exact lk_X17_column_399 K hw hR hS (lv_sub hl [] rfl)
    · have hw := sv_iff cc hw
      refine lv_aload_n hx hb dX17_column_127 rfl (lv_at hl 0 rfl) ?_
      obtain ⟨v2, hv, hw⟩ := sv_bd hw
      refine sv_rgP hx hb hown hC.1 hR (fl_X17_column_45 hts hC hni) rfl (by decide) rfl rfl hv dX17_column_128 ?_
      refine lv_iload hx hb dX17_column_131 (lv_at hl 3 rfl) ?_
      obtain ⟨v3, hv, hw⟩ := sv_bd hw
      refine sv_rlI hx hb hC.1 rfl hR hv dX17_column_133 ?_
      refine lv_istore (lv' := [(5, .int v3), (0, .ref x0), (2, .int x2), (3, .int x3), (4, .int x4)]) hx hb dX17_column_134 hl (by decide) rfl (fun ls hl => ?_)
      refine lv_aload_n hx hb dX17_column_136 rfl (lv_at hl 1 rfl) ?_
      refine lv_iload hx hb dX17_column_137 (lv_at hl 0 rfl) ?_
      obtain ⟨r4, h5, hv1, hw⟩ := sv_b_some hw
      refine sv_call (va_runV (As := [.int v3]) (rest := []) ⟨hx, hb, hml, hown, hts⟩ (mt_X17_meets l G B hv1) (cwV 1 hts (sv_gV wd_2039 wd_2041 wd_92 wd_144 wd_2042) rfl rfl rfl (by decide +kernel) ⟨Nat.le_of_ble_eq_true rfl, Nat.le_of_ble_eq_true rfl⟩) ⟨sv_blind, sv_recv hC.1 hR (ci := 17) (sv_go hv1).1 (by decide) rfl, fun U hU hW => sv_pre hC hR hS hBs hU hW⟩ rfl rfl hl.1 rfl (lv_room (Nat.le_of_ble_eq_true rfl)) dX17_column_139 ⟨Nat.zero_le _, Nat.zero_le _⟩) hS (fun H locs hR hS => ?_)
      refine lv_istore (lv' := [(6, .int r4), (5, .int v3), (0, .ref x0), (2, .int x2), (3, .int x3), (4, .int x4)]) hx hb dX17_column_142 hl (by decide) rfl (fun ls hl => ?_)
      refine lv_aload_n hx hb dX17_column_144 rfl (lv_at hl 2 rfl) ?_
      refine lv_iload hx hb dX17_column_145 (lv_at hl 1 rfl) ?_
      refine lv_iconst (v := 1) hx hb dX17_column_147 (by decide) ?_
      obtain ⟨r6, h7, hv2, hw⟩ := sv_b_some hw
      refine sv_call (va_runV (As := [.int v3, .int 1]) (rest := []) ⟨hx, hb, hml, hown, hts⟩ (mt_X17_sideOf l G B hv2) (cwV 2 hts (sv_gV wd_2054 wd_2056 wd_93 wd_144 wd_2057) rfl rfl rfl (by decide +kernel) ⟨Nat.le_of_ble_eq_true rfl, Nat.le_of_ble_eq_true rfl⟩) ⟨sv_blind, sv_recv hC.1 hR (ci := 17) (sv_go hv2).1 (by decide) rfl, fun U hU hW => sv_pre hC hR hS hBs hU hW⟩ rfl rfl hl.1 rfl (lv_room (Nat.le_of_ble_eq_true rfl)) dX17_column_148 ⟨Nat.zero_le _, Nat.zero_le _⟩) hS (fun H locs hR hS => ?_)
      refine lv_istore (lv' := [(7, .int r6), (6, .int r4), (5, .int v3), (0, .ref x0), (2, .int x2), (3, .int x3), (4, .int x4)]) hx hb dX17_column_151 hl (by decide) rfl (fun ls hl => ?_)
      refine lv_aload_n hx hb dX17_column_153 rfl (lv_at hl 3 rfl) ?_
      refine lv_iload hx hb dX17_column_154 (lv_at hl 2 rfl) ?_
      refine lv_iconst (v := 0) hx hb dX17_column_156 (by decide) ?_
      obtain ⟨r8, h9, hv3, hw⟩ := sv_b_some hw
      refine sv_call (va_runV (As := [.int v3, .int 0]) (rest := []) ⟨hx, hb, hml, hown, hts⟩ (mt_X17_sideOf l G B hv3) (cwV 2 hts (sv_gV wd_2054 wd_2056 wd_93 wd_144 wd_2057) rfl rfl rfl (by decide +kernel) ⟨Nat.le_of_ble_eq_true rfl, Nat.le_of_ble_eq_true rfl⟩) ⟨sv_blind, sv_recv hC.1 hR (ci := 17) (sv_go hv3).1 (by decide) rfl, fun U hU hW => sv_pre hC hR hS hBs hU hW⟩ rfl rfl hl.1 rfl (lv_room (Nat.le_of_ble_eq_true rfl)) dX17_column_157 ⟨Nat.zero_le _, Nat.zero_le _⟩) hS (fun H locs hR hS => ?_)
      refine lv_istore (lv' := [(8, .int r8), (7, .int r6), (6, .int r4), (5, .int v3), (0, .ref x0), (2, .int x2), (3, .int x3), (4, .int x4)]) hx hb dX17_column_160 hl (by decide) rfl (fun ls hl => ?_)
      refine lv_iload hx hb dX17_column_162 (lv_at hl 1 rfl) ?_
      refine lv_if_ge (tgt := 170) hx hb dX17_column_164 (by decide) (fun cc => ?_) (fun cc => ?_)
      · have hw := sv_ift cc hw
        refine lv_aload_n hx hb dX17_column_170 rfl (lv_at hl 4 rfl) ?_
        obtain ⟨v10, hv, hw⟩ := sv_bd hw
        refine sv_rgP hx hb hown hC.1 hR (fl_X17_column_48 hts hC hni) rfl (by decide) rfl rfl hv dX17_column_171 ?_
        refine lv_aload_n hx hb dX17_column_174 rfl (lv_at hl 4 rfl) ?_
        obtain ⟨v11, hv, hw⟩ := sv_bd hw
        refine sv_rgI hx hb hown hC.1 hR (fl_X17_column_279 hts hC hni) rfl (by decide) rfl rfl hv dX17_column_175 ?_
        refine lv_iload hx hb dX17_column_178 (lv_at hl 3 rfl) ?_
        obtain ⟨h12, hv, hw⟩ := sv_bd hw
        refine sv_rsI hx hb hC.1 rfl hR hS hv dX17_column_180 (fun H locs hR hS => ?_)
        refine lv_aload_n hx hb dX17_column_181 rfl (lv_at hl 4 rfl) ?_
        refine lv_dup hx hb dX17_column_182 rfl ?_
        obtain ⟨v13, hv, hw⟩ := sv_bd hw
        refine sv_rgI hx hb hown hC.1 hR (fl_X17_column_279 hts hC hni) rfl (by decide) rfl rfl hv dX17_column_183 ?_
        refine lv_iconst (v := 1) hx hb dX17_column_186 (by decide) ?_
        refine lv_iadd hx hb dX17_column_187 ?_
        obtain ⟨h14, hv, hw⟩ := sv_bd hw
        refine sv_rpI hx hb hown hC.1 hR hS (fl_X17_column_279 hts hC hni) rfl (by decide) rfl rfl hv dX17_column_188 (fun H locs hR hS => ?_)
        refine lv_aload_n hx hb dX17_column_191 rfl (lv_at hl 4 rfl) ?_
        refine lv_aload_n hx hb dX17_column_192 rfl (lv_at hl 4 rfl) ?_
        obtain ⟨v15, hv, hw⟩ := sv_bd hw
        refine sv_rgP hx hb hown hC.1 hR (fl_X17_column_26 hts hC hni) rfl (by decide) rfl rfl hv dX17_column_193 ?_
        obtain ⟨v16, hv, hw⟩ := sv_bd hw
        refine sv_rgP hx hb hown hC.1 hR (fl_X17_column_247 hts hC hni) rfl (by decide) rfl rfl hv dX17_column_196 ?_
        refine lv_iload hx hb dX17_column_199 (lv_at hl 1 rfl) ?_
        obtain ⟨v17, hv, hw⟩ := sv_bd hw
        refine sv_rlI hx hb hC.1 rfl hR hv dX17_column_201 ?_
        refine lv_iload_n hx hb dX17_column_202 rfl (lv_at hl 5 rfl) ?_
        refine lv_iload_n hx hb dX17_column_203 rfl (lv_at hl 6 rfl) ?_
        obtain ⟨r18, h19, hv4, hw⟩ := sv_b_some hw
        refine sv_call (va_runV (As := [.int v17, .int x2, .int x3]) (rest := []) ⟨hx, hb, hml, hown, hts⟩ (mt_X17_rowOf l G B hv4) (cwV 3 hts (sv_gV wd_2062 wd_2064 wd_95 wd_144 wd_2065) rfl rfl rfl (by decide +kernel) ⟨Nat.le_of_ble_eq_true rfl, Nat.le_of_ble_eq_true rfl⟩) ⟨sv_blind, sv_recv hC.1 hR (ci := 17) (sv_go hv4).1 (by decide) rfl, fun U hU hW => sv_pre hC hR hS hBs hU hW⟩ rfl rfl hl.1 rfl (lv_room (Nat.le_of_ble_eq_true rfl)) dX17_column_204 ⟨Nat.zero_le _, Nat.zero_le _⟩) hS (fun H locs hR hS => ?_)
        refine lv_istore (lv' := [(9, .int r18), (8, .int r8), (7, .int r6), (6, .int r4), (5, .int v3), (0, .ref x0), (2, .int x2), (3, .int x3), (4, .int x4)]) hx hb dX17_column_207 hl (by decide) rfl (fun ls hl => ?_)
        refine lv_aload_n hx hb dX17_column_209 rfl (lv_at hl 5 rfl) ?_
        refine lv_aload_n hx hb dX17_column_210 rfl (lv_at hl 5 rfl) ?_
        obtain ⟨v20, hv, hw⟩ := sv_bd hw
        refine sv_rgP hx hb hown hC.1 hR (fl_X17_column_26 hts hC hni) rfl (by decide) rfl rfl hv dX17_column_211 ?_
        obtain ⟨v21, hv, hw⟩ := sv_bd hw
        refine sv_rgP hx hb hown hC.1 hR (fl_X17_column_221 hts hC hni) rfl (by decide) rfl rfl hv dX17_column_214 ?_
        refine lv_iload hx hb dX17_column_217 (lv_at hl 2 rfl) ?_
        obtain ⟨v22, hv, hw⟩ := sv_bd hw
        refine sv_rlI hx hb hC.1 rfl hR hv dX17_column_219 ?_
        refine lv_iload hx hb dX17_column_220 (lv_at hl 0 rfl) ?_
        refine lv_iload_n hx hb dX17_column_222 rfl (lv_at hl 7 rfl) ?_
        obtain ⟨r23, h24, hv5, hw⟩ := sv_b_some hw
        refine sv_call (va_runV (As := [.int v22, .int r18, .int x3]) (rest := []) ⟨hx, hb, hml, hown, hts⟩ (mt_X17_rowOf l G B hv5) (cwV 3 hts (sv_gV wd_2062 wd_2064 wd_95 wd_144 wd_2065) rfl rfl rfl (by decide +kernel) ⟨Nat.le_of_ble_eq_true rfl, Nat.le_of_ble_eq_true rfl⟩) ⟨sv_blind, sv_recv hC.1 hR (ci := 17) (sv_go hv5).1 (by decide) rfl, fun U hU hW => sv_pre hC hR hS hBs hU hW⟩ rfl rfl hl.1 rfl (lv_room (Nat.le_of_ble_eq_true rfl)) dX17_column_223 ⟨Nat.zero_le _, Nat.zero_le _⟩) hS (fun H locs hR hS => ?_)
        refine lv_istore (lv' := [(10, .int r23), (9, .int r18), (8, .int r8), (7, .int r6), (6, .int r4), (5, .int v3), (0, .ref x0), (2, .int x2), (3, .int x3), (4, .int x4)]) hx hb dX17_column_226 hl (by decide) rfl (fun ls hl => ?_)
        refine lv_aload_n hx hb dX17_column_228 rfl (lv_at hl 6 rfl) ?_
        refine lv_iload_n hx hb dX17_column_229 rfl (lv_at hl 7 rfl) ?_
        refine lv_iload hx hb dX17_column_230 (lv_at hl 1 rfl) ?_
        refine lv_iconst (v := 1) hx hb dX17_column_232 (by decide) ?_
        refine lv_iload hx hb dX17_column_233 (lv_at hl 3 rfl) ?_
        obtain ⟨_, h25, hv6, hw⟩ := sv_b_some hw
        refine sv_call (va_runV (As := [.int x2, .int r18, .int 1, .int r6]) (rest := []) ⟨hx, hb, hml, hown, hts⟩ (mt_X17_flat l G B hv6) (cwV 4 hts (sv_gV wd_2075 wd_2077 wd_97 wd_144 wd_2078) rfl rfl rfl (by decide +kernel) ⟨Nat.le_of_ble_eq_true rfl, Nat.le_of_ble_eq_true rfl⟩) ⟨sv_blind, sv_recv hC.1 hR (ci := 17) (sv_go hv6).1 (by decide) rfl, fun U hU hW => sv_pre hC hR hS hBs hU hW⟩ rfl rfl hl.1 rfl (lv_room (Nat.le_of_ble_eq_true rfl)) dX17_column_235 ⟨Nat.zero_le _, Nat.zero_le _⟩) hS (fun H locs hR hS => ?_)
        refine lv_aload_n hx hb dX17_column_238 rfl (lv_at hl 6 rfl) ?_
        refine lv_iload hx hb dX17_column_239 (lv_at hl 0 rfl) ?_
        refine lv_iload_n hx hb dX17_column_241 rfl (lv_at hl 8 rfl) ?_
        refine lv_iconst (v := 2) hx hb dX17_column_242 (by decide) ?_
        refine lv_iload hx hb dX17_column_243 (lv_at hl 3 rfl) ?_
        obtain ⟨_, h26, hv7, hw⟩ := sv_b_some hw
        refine sv_call (va_runV (As := [.int r23, .int x3, .int 2, .int r6]) (rest := []) ⟨hx, hb, hml, hown, hts⟩ (mt_X17_flat l G B hv7) (cwV 4 hts (sv_gV wd_2075 wd_2077 wd_97 wd_144 wd_2078) rfl rfl rfl (by decide +kernel) ⟨Nat.le_of_ble_eq_true rfl, Nat.le_of_ble_eq_true rfl⟩) ⟨sv_blind, sv_recv hC.1 hR (ci := 17) (sv_go hv7).1 (by decide) rfl, fun U hU hW => sv_pre hC hR hS hBs hU hW⟩ rfl rfl hl.1 rfl (lv_room (Nat.le_of_ble_eq_true rfl)) dX17_column_245 ⟨Nat.zero_le _, Nat.zero_le _⟩) hS (fun H locs hR hS => ?_)
        refine lv_iload hx hb dX17_column_248 (lv_at hl 2 rfl) ?_
        refine lv_if_ge (tgt := 269) hx hb dX17_column_250 (by decide) (fun cc => ?_) (fun cc => ?_)
        · have hw := sv_ift cc hw
          refine lv_aload_n hx hb dX17_column_269 rfl (lv_at hl 6 rfl) ?_
          obtain ⟨v27, hv, hw⟩ := sv_bd hw
          refine sv_rgP hx hb hown hC.1 hR (fl_X17_column_26 hts hC hni) rfl (by decide) rfl rfl hv dX17_column_270 ?_
          obtain ⟨v28, hv, hw⟩ := sv_bd hw
          refine sv_rgP hx hb hown hC.1 hR (fl_X17_column_247 hts hC hni) rfl (by decide) rfl rfl hv dX17_column_273 ?_
          refine lv_iload hx hb dX17_column_276 (lv_at hl 2 rfl) ?_
          obtain ⟨v29, hv, hw⟩ := sv_bd hw
          refine sv_rlI hx hb hC.1 rfl hR hv dX17_column_278 ?_
          refine lv_aload_n hx hb dX17_column_279 rfl (lv_at hl 6 rfl) ?_
          obtain ⟨v30, hv, hw⟩ := sv_bd hw
          refine sv_rgP hx hb hown hC.1 hR (fl_X17_column_26 hts hC hni) rfl (by decide) rfl rfl hv dX17_column_280 ?_
          obtain ⟨v31, hv, hw⟩ := sv_bd hw
          refine sv_rgP hx hb hown hC.1 hR (fl_X17_column_247 hts hC hni) rfl (by decide) rfl rfl hv dX17_column_283 ?_
          refine lv_iload hx hb dX17_column_286 (lv_at hl 3 rfl) ?_
          obtain ⟨v32, hv, hw⟩ := sv_bd hw
          refine sv_rlI hx hb hC.1 rfl hR hv dX17_column_288 ?_
          refine lv_icmp_ge (tgt := 313) hx hb dX17_column_289 (by decide) (fun cc => ?_) (fun cc => ?_)
          · have hw := sv_ift cc hw
            refine lv_iload hx hb dX17_column_313 (lv_at hl 1 rfl) ?_
            exact lk_X17_column_315 K hk113 hw hR hS (lv_sub hl [6, 9, 5, 3, 2, 1, 0] rfl)
          · have hw := sv_iff cc hw
            refine lv_aload_n hx hb dX17_column_292 rfl (lv_at hl 6 rfl) ?_
            refine lv_aload_n hx hb dX17_column_293 rfl (lv_at hl 6 rfl) ?_
            obtain ⟨v33, hv, hw⟩ := sv_bd hw
            refine sv_rgP hx hb hown hC.1 hR (fl_X17_column_26 hts hC hni) rfl (by decide) rfl rfl hv dX17_column_294 ?_
            obtain ⟨v34, hv, hw⟩ := sv_bd hw
            refine sv_rgP hx hb hown hC.1 hR (fl_X17_column_247 hts hC hni) rfl (by decide) rfl rfl hv dX17_column_297 ?_
            refine lv_iload hx hb dX17_column_300 (lv_at hl 2 rfl) ?_
            obtain ⟨v35, hv, hw⟩ := sv_bd hw
            refine sv_rlI hx hb hC.1 rfl hR hv dX17_column_302 ?_
            refine lv_iload hx hb dX17_column_303 (lv_at hl 1 rfl) ?_
            refine lv_iload hx hb dX17_column_305 (lv_at hl 0 rfl) ?_
            obtain ⟨r36, h37, hv8, hw⟩ := sv_b_some hw
            refine sv_call (va_runV (As := [.int v35, .int r18, .int r23]) (rest := []) ⟨hx, hb, hml, hown, hts⟩ (mt_X17_rowOf l G B hv8) (cwV 3 hts (sv_gV wd_2062 wd_2064 wd_95 wd_144 wd_2065) rfl rfl rfl (by decide +kernel) ⟨Nat.le_of_ble_eq_true rfl, Nat.le_of_ble_eq_true rfl⟩) ⟨sv_blind, sv_recv hC.1 hR (ci := 17) (sv_go hv8).1 (by decide) rfl, fun U hU hW => sv_pre hC hR hS hBs hU hW⟩ rfl rfl hl.1 rfl (lv_room (Nat.le_of_ble_eq_true rfl)) dX17_column_307 ⟨Nat.zero_le _, Nat.zero_le _⟩) hS (fun H locs hR hS => ?_)
            refine lv_goto (tgt := 315) hx hb dX17_column_310 (by decide) ?_
            exact lk_X17_column_315 K hk113 hw hR hS (lv_sub hl [6, 9, 5, 3, 2, 1, 0] rfl)
        · have hw := sv_iff cc hw
          refine lv_aload_n hx hb dX17_column_253 rfl (lv_at hl 6 rfl) ?_
          refine lv_iload hx hb dX17_column_254 (lv_at hl 1 rfl) ?_
          refine lv_iload hx hb dX17_column_256 (lv_at hl 0 rfl) ?_
          refine lv_iconst (v := 3) hx hb dX17_column_258 (by decide) ?_
          refine lv_iload hx hb dX17_column_259 (lv_at hl 5 rfl) ?_
          obtain ⟨_, h38, hv9, hw⟩ := sv_b_some hw
          refine sv_call (va_runV (As := [.int r18, .int r23, .int 3, .int v3]) (rest := []) ⟨hx, hb, hml, hown, hts⟩ (mt_X17_part l G B hv9) (cwV 4 hts (sv_gV wd_2119 wd_2121 wd_105 wd_144 wd_2122) rfl rfl rfl (by decide +kernel) ⟨Nat.le_of_ble_eq_true rfl, Nat.le_of_ble_eq_true rfl⟩) ⟨sv_blind, sv_recv hC.1 hR (ci := 17) (sv_go hv9).1 (by decide) rfl, fun U hU hW => sv_pre hC hR hS hBs hU hW⟩ rfl rfl hl.1 rfl (lv_room (Nat.le_of_ble_eq_true rfl)) dX17_column_261 ⟨Nat.zero_le _, Nat.zero_le _⟩) hS (fun H locs hR hS => ?_)
          refine lv_iload_n hx hb dX17_column_264 rfl (lv_at hl 8 rfl) ?_
          refine lv_istore_n (lv' := [(2, .int x3), (10, .int r23), (9, .int r18), (8, .int r8), (7, .int r6), (6, .int r4), (5, .int v3), (0, .ref x0), (3, .int x3), (4, .int x4)]) hx hb dX17_column_265 rfl hl (by decide) rfl (fun ls hl => ?_)
          refine lv_goto (tgt := 393) hx hb dX17_column_266 (by decide) ?_
          exact lk_X17_column_393 K hk113 hw hR hS (lv_sub hl [7, 0, 8, 9] rfl)
      · have hw := sv_iff cc hw
        refine lv_goto (tgt := 393) hx hb dX17_column_167 (by decide) ?_
        exact lk_X17_column_393 K hk113 hw hR hS (lv_sub hl [4, 5, 6, 7] rfl)
theorem lk_X17_column_113 {p : Program} {l : Launch} {e : Env} {s : State} {m : MethodId} {args : Array Value} {below : List Frame} {meth : Method} {c : Code} {G : sv_G} {B : Nat} (K : sv_W p s m args meth c cX17_column RX17 13 none G B "column") {r : Unit} {hE : sv_H} : ∀ (n : Nat) {x0 : Nat} {x2 : Int32} {x3 : Int32} {x4 : Int32} {h : sv_H}, fn_X17_column_113 n x0 x2 x3 x4 h = some (r, hE) → ∀ {H : Heap} {locs : List Loc} {ls : Array Slot}, sv_R G vwCl sv_ft B h H → va_S (fun q => B ≤ q) s.heap H locs → lv_has ls 13 [(0, .ref x0), (2, .int x2), (3, .int x3), (4, .int x4)] → W p l e rm_X17_column s m args below meth c H locs 0 0 (sv_Z below s args G B none hE) (F0 m 113 ls []) := by
  intro n
  induction n with
  | zero => intro x0 x2 x3 x4 h hw; cases (show (none : Option (Unit × sv_H)) = some (r, hE) from hw)
  | succ n ih => intro x0 x2 x3 x4 h hw H locs ls hR hS hl; exact lk_X17_column_113b K (fun hw => ih hw) hw hR hS hl
set_option maxHeartbeats 4000000 in
set_option maxRecDepth 100000 in
theorem lk_X17_column_81b {p : Program} {l : Launch} {e : Env} {s : State} {m : MethodId} {args : Array Value} {below : List Frame} {meth : Method} {c : Code} {G : sv_G} {B : Nat} (K : sv_W p s m args meth c cX17_column RX17 13 none G B "column") {r : Unit} {hE : sv_H} {k81 : Nat → Int32 → Int32 → Int32 → sv_H → Option (Unit × sv_H)} (hk81 : ∀ {x0 : Nat} {x2 : Int32} {x3 : Int32} {x4 : Int32} {h : sv_H}, k81 x0 x2 x3 x4 h = some (r, hE) → ∀ {H : Heap} {locs : List Loc} {ls : Array Slot}, sv_R G vwCl sv_ft B h H → va_S (fun q => B ≤ q) s.heap H locs → lv_has ls 13 [(0, .ref x0), (2, .int x2), (3, .int x3), (4, .int x4)] → W p l e rm_X17_column s m args below meth c H locs 0 0 (sv_Z below s args G B none hE) (F0 m 81 ls [])) {x0 : Nat} {x2 : Int32} {x3 : Int32} {x4 : Int32} {h : sv_H} (hw : fn_X17_column_81b k81 x0 x2 x3 x4 h = some (r, hE)) {H : Heap} {locs : List Loc} {ls : Array Slot} (hR : sv_R G vwCl sv_ft B h H) (hS : va_S (fun q => B ≤ q) s.heap H locs) (hl : lv_has ls 13 [(0, .ref x0), (2, .int x2), (3, .int x3), (4, .int x4)]) : W p l e rm_X17_column s m args below meth c H locs 0 0 (sv_Z below s args G B none hE) (F0 m 81 ls []) := by
  obtain ⟨hx, hb, hml, hown, hts, hC, hlk, hr, hBs, hni⟩ := id K
  unfold fn_X17_column_81b at hw
  refine lv_iload hx hb dX17_column_81 (lv_at hl 3 rfl) ?_
  refine lv_bipush (v := 48) hx hb dX17_column_83 (by decide) ?_
  refine lv_icmp_ge (tgt := 110) hx hb dX17_column_85 (by decide) (fun cc => ?_) (fun cc => ?_)
  · have hw := sv_ift cc hw
    refine lv_iconst (v := 0) hx hb dX17_column_110 (by decide) ?_
    refine lv_istore (lv' := [(4, .int 0), (0, .ref x0), (2, .int x2), (3, .int x3)]) hx hb dX17_column_111 hl (by decide) rfl (fun ls hl => ?_)
    exact lk_X17_column_113 K sv_fuel hw hR hS (lv_sub hl [1, 2, 3, 0] rfl)
  · have hw := sv_iff cc hw
    refine lv_aload_n hx hb dX17_column_88 rfl (lv_at hl 0 rfl) ?_
    obtain ⟨v1, hv, hw⟩ := sv_bd hw
    refine sv_rgP hx hb hown hC.1 hR (fl_X17_column_51 hts hC hni) rfl (by decide) rfl rfl hv dX17_column_89 ?_
    refine lv_iload hx hb dX17_column_92 (lv_at hl 3 rfl) ?_
    refine lv_iconst (v := 0) hx hb dX17_column_94 (by decide) ?_
    obtain ⟨h2, hv, hw⟩ := sv_bd hw
    refine sv_rsI hx hb hC.1 rfl hR hS hv dX17_column_95 (fun H locs hR hS => ?_)
    refine lv_aload_n hx hb dX17_column_96 rfl (lv_at hl 0 rfl) ?_
    obtain ⟨v3, hv, hw⟩ := sv_bd hw
    refine sv_rgP hx hb hown hC.1 hR (fl_X17_column_54 hts hC hni) rfl (by decide) rfl rfl hv dX17_column_97 ?_
    refine lv_iload hx hb dX17_column_100 (lv_at hl 3 rfl) ?_
    refine lv_iconst (v := 0) hx hb dX17_column_102 (by decide) ?_
    obtain ⟨h4, hv, hw⟩ := sv_bd hw
    refine sv_rsI hx hb hC.1 rfl hR hS hv dX17_column_103 (fun H locs hR hS => ?_)
    refine lv_iinc (v := x4 + 1) (lv' := [(4, .int (x4 + 1)), (0, .ref x0), (2, .int x2), (3, .int x3)]) hx hb dX17_column_104 hl (k := 3) rfl rfl (by decide) rfl (fun ls hl => ?_)
    refine lv_goto (tgt := 81) hx hb dX17_column_107 (by decide) ?_
    exact hk81 hw hR hS (lv_sub hl [1, 2, 3, 0] rfl)
theorem lk_X17_column_81 {p : Program} {l : Launch} {e : Env} {s : State} {m : MethodId} {args : Array Value} {below : List Frame} {meth : Method} {c : Code} {G : sv_G} {B : Nat} (K : sv_W p s m args meth c cX17_column RX17 13 none G B "column") {r : Unit} {hE : sv_H} : ∀ (n : Nat) {x0 : Nat} {x2 : Int32} {x3 : Int32} {x4 : Int32} {h : sv_H}, fn_X17_column_81 n x0 x2 x3 x4 h = some (r, hE) → ∀ {H : Heap} {locs : List Loc} {ls : Array Slot}, sv_R G vwCl sv_ft B h H → va_S (fun q => B ≤ q) s.heap H locs → lv_has ls 13 [(0, .ref x0), (2, .int x2), (3, .int x3), (4, .int x4)] → W p l e rm_X17_column s m args below meth c H locs 0 0 (sv_Z below s args G B none hE) (F0 m 81 ls []) := by
  intro n
  induction n with
  | zero => intro x0 x2 x3 x4 h hw; cases (show (none : Option (Unit × sv_H)) = some (r, hE) from hw)
  | succ n ih => intro x0 x2 x3 x4 h hw H locs ls hR hS hl; exact lk_X17_column_81b K (fun hw => ih hw) hw hR hS hl
set_option maxHeartbeats 4000000 in
set_option maxRecDepth 100000 in
theorem lk_X17_column_0 {p : Program} {l : Launch} {e : Env} {s : State} {m : MethodId} {args : Array Value} {below : List Frame} {meth : Method} {c : Code} {G : sv_G} {B : Nat} (K : sv_W p s m args meth c cX17_column RX17 13 none G B "column") {r : Unit} {hE : sv_H} {x0 : Nat} {x1 : Int32} {h : sv_H} (hw : fn_X17_column x0 x1 h = some (r, hE)) {H : Heap} {locs : List Loc} {ls : Array Slot} (hR : sv_R G vwCl sv_ft B h H) (hS : va_S (fun q => B ≤ q) s.heap H locs) (hl : lv_has ls 13 [(0, .ref x0), (1, .int x1)]) : W p l e rm_X17_column s m args below meth c H locs 0 0 (sv_Z below s args G B none hE) (F0 m 0 ls []) := by
  obtain ⟨hx, hb, hml, hown, hts, hC, hlk, hr, hBs, hni⟩ := id K
  unfold fn_X17_column at hw
  have hw := (sv_go hw).2
  refine lv_aload_n hx hb dX17_column_0 rfl (lv_at hl 0 rfl) ?_
  refine lv_ldc2 (v := 64) hx hb hown (hts _ wd_2023) dX17_column_1 ?_
  refine lv_aload_n hx hb dX17_column_4 rfl (lv_at hl 0 rfl) ?_
  obtain ⟨v1, hv, hw⟩ := sv_bd hw
  refine sv_rgI hx hb hown hC.1 hR (fl_X17_column_265 hts hC hni) rfl (by decide) rfl rfl hv dX17_column_5 ?_
  obtain ⟨r2, h3, hv1, hw⟩ := sv_b_some hw
  refine sv_call (va_runS (As := [.int v1]) (rest := [.long 64, .ref x0]) ⟨hx, hb, hml, hown, hts⟩ (mt_X17_cosine l G B hv1) (va_cwS 1 hts (sv_gS wd_2024 wd_2025 wd_144 wd_2026) rfl rfl rfl (by decide +kernel) ⟨Nat.le_of_ble_eq_true rfl, Nat.le_of_ble_eq_true rfl⟩) ⟨sv_blind, fun U hU hW => sv_pre hC hR hS hBs hU hW⟩ rfl rfl hl.1 rfl (lv_room (Nat.le_of_ble_eq_true rfl)) dX17_column_8 ⟨Nat.zero_le _, Nat.zero_le _⟩) hS (fun H locs hR hS => ?_)
  refine lv_i2l hx hb dX17_column_11 rfl ?_
  refine lv_lmul hx hb dX17_column_12 ?_
  refine lv_ldc2 (v := 2) hx hb hown (hts _ wd_2030) dX17_column_13 ?_
  refine lv_iload_n hx hb dX17_column_16 rfl (lv_at hl 1 rfl) ?_
  refine lv_i2l hx hb dX17_column_17 rfl ?_
  refine lv_lmul hx hb dX17_column_18 ?_
  refine lv_ldc2 (v := 63) hx hb hown (hts _ wd_2031) dX17_column_19 ?_
  refine lv_lsub hx hb dX17_column_22 ?_
  refine lv_aload_n hx hb dX17_column_23 rfl (lv_at hl 0 rfl) ?_
  obtain ⟨v4, hv, hw⟩ := sv_bd hw
  refine sv_rgI hx hb hown hC.1 hR (fl_X17_column_265 hts hC hni) rfl (by decide) rfl rfl hv dX17_column_24 ?_
  obtain ⟨r5, h6, hv2, hw⟩ := sv_b_some hw
  refine sv_call (va_runS (As := [.int v4]) (rest := [.long ((2 * (Int32.toInt64 x1)) - 63), .long (64 * (Int32.toInt64 r2)), .ref x0]) ⟨hx, hb, hml, hown, hts⟩ (mt_X17_sine l G B hv2) (va_cwS 1 hts (sv_gS wd_2032 wd_2033 wd_144 wd_2034) rfl rfl rfl (by decide +kernel) ⟨Nat.le_of_ble_eq_true rfl, Nat.le_of_ble_eq_true rfl⟩) ⟨sv_blind, fun U hU hW => sv_pre hC hR hS hBs hU hW⟩ rfl rfl hl.1 rfl (lv_room (Nat.le_of_ble_eq_true rfl)) dX17_column_27 ⟨Nat.zero_le _, Nat.zero_le _⟩) hS (fun H locs hR hS => ?_)
  refine lv_i2l hx hb dX17_column_30 rfl ?_
  refine lv_lmul hx hb dX17_column_31 ?_
  refine lv_ladd hx hb dX17_column_32 ?_
  refine lv_ldc2 (v := 64) hx hb hown (hts _ wd_2023) dX17_column_33 ?_
  refine lv_aload_n hx hb dX17_column_36 rfl (lv_at hl 0 rfl) ?_
  obtain ⟨v7, hv, hw⟩ := sv_bd hw
  refine sv_rgI hx hb hown hC.1 hR (fl_X17_column_265 hts hC hni) rfl (by decide) rfl rfl hv dX17_column_37 ?_
  obtain ⟨r8, h9, hv3, hw⟩ := sv_b_some hw
  refine sv_call (va_runS (As := [.int v7]) (rest := [.long 64, .long ((64 * (Int32.toInt64 r2)) + (((2 * (Int32.toInt64 x1)) - 63) * (Int32.toInt64 r5))), .ref x0]) ⟨hx, hb, hml, hown, hts⟩ (mt_X17_sine l G B hv3) (va_cwS 1 hts (sv_gS wd_2032 wd_2033 wd_144 wd_2034) rfl rfl rfl (by decide +kernel) ⟨Nat.le_of_ble_eq_true rfl, Nat.le_of_ble_eq_true rfl⟩) ⟨sv_blind, fun U hU hW => sv_pre hC hR hS hBs hU hW⟩ rfl rfl hl.1 rfl (lv_room (Nat.le_of_ble_eq_true rfl)) dX17_column_40 ⟨Nat.zero_le _, Nat.zero_le _⟩) hS (fun H locs hR hS => ?_)
  refine lv_i2l hx hb dX17_column_43 rfl ?_
  refine lv_lmul hx hb dX17_column_44 ?_
  refine lv_ldc2 (v := 2) hx hb hown (hts _ wd_2030) dX17_column_45 ?_
  refine lv_iload_n hx hb dX17_column_48 rfl (lv_at hl 1 rfl) ?_
  refine lv_i2l hx hb dX17_column_49 rfl ?_
  refine lv_lmul hx hb dX17_column_50 ?_
  refine lv_ldc2 (v := 63) hx hb hown (hts _ wd_2031) dX17_column_51 ?_
  refine lv_lsub hx hb dX17_column_54 ?_
  refine lv_aload_n hx hb dX17_column_55 rfl (lv_at hl 0 rfl) ?_
  obtain ⟨v10, hv, hw⟩ := sv_bd hw
  refine sv_rgI hx hb hown hC.1 hR (fl_X17_column_265 hts hC hni) rfl (by decide) rfl rfl hv dX17_column_56 ?_
  obtain ⟨r11, h12, hv4, hw⟩ := sv_b_some hw
  refine sv_call (va_runS (As := [.int v10]) (rest := [.long ((2 * (Int32.toInt64 x1)) - 63), .long (64 * (Int32.toInt64 r8)), .long ((64 * (Int32.toInt64 r2)) + (((2 * (Int32.toInt64 x1)) - 63) * (Int32.toInt64 r5))), .ref x0]) ⟨hx, hb, hml, hown, hts⟩ (mt_X17_cosine l G B hv4) (va_cwS 1 hts (sv_gS wd_2024 wd_2025 wd_144 wd_2026) rfl rfl rfl (by decide +kernel) ⟨Nat.le_of_ble_eq_true rfl, Nat.le_of_ble_eq_true rfl⟩) ⟨sv_blind, fun U hU hW => sv_pre hC hR hS hBs hU hW⟩ rfl rfl hl.1 rfl (lv_room (Nat.le_of_ble_eq_true rfl)) dX17_column_59 ⟨Nat.zero_le _, Nat.zero_le _⟩) hS (fun H locs hR hS => ?_)
  refine lv_i2l hx hb dX17_column_62 rfl ?_
  refine lv_lmul hx hb dX17_column_63 ?_
  refine lv_lsub hx hb dX17_column_64 ?_
  obtain ⟨_, h13, hv5, hw⟩ := sv_b_some hw
  refine sv_call (va_runV (As := [.long ((64 * (Int32.toInt64 r2)) + (((2 * (Int32.toInt64 x1)) - 63) * (Int32.toInt64 r5))), .long ((64 * (Int32.toInt64 r8)) - (((2 * (Int32.toInt64 x1)) - 63) * (Int32.toInt64 r11)))]) (rest := []) ⟨hx, hb, hml, hown, hts⟩ (mt_X17_gather l G B hv5) (cwV 2 hts (sv_gV wd_2035 wd_2037 wd_91 wd_144 wd_2038) rfl rfl rfl (by decide +kernel) ⟨Nat.le_of_ble_eq_true rfl, Nat.le_of_ble_eq_true rfl⟩) ⟨sv_blind, sv_recv hC.1 hR (ci := 17) (sv_go hv5).1 (by decide) rfl, fun U hU hW => sv_pre hC hR hS hBs hU hW⟩ rfl rfl hl.1 rfl (lv_room (Nat.le_of_ble_eq_true rfl)) dX17_column_65 ⟨Nat.zero_le _, Nat.zero_le _⟩) hS (fun H locs hR hS => ?_)
  refine lv_iconst (v := 0) hx hb dX17_column_68 (by decide) ?_
  refine lv_istore_n (lv' := [(2, .int 0), (0, .ref x0), (1, .int x1)]) hx hb dX17_column_69 rfl hl (by decide) rfl (fun ls hl => ?_)
  refine lv_bipush (v := 48) hx hb dX17_column_70 (by decide) ?_
  refine lv_istore_n (lv' := [(3, .int 48), (2, .int 0), (0, .ref x0), (1, .int x1)]) hx hb dX17_column_72 rfl hl (by decide) rfl (fun ls hl => ?_)
  refine lv_aload_n hx hb dX17_column_73 rfl (lv_at hl 2 rfl) ?_
  refine lv_iconst (v := 0) hx hb dX17_column_74 (by decide) ?_
  obtain ⟨h14, hv, hw⟩ := sv_bd hw
  refine sv_rpI hx hb hown hC.1 hR hS (fl_X17_column_279 hts hC hni) rfl (by decide) rfl rfl hv dX17_column_75 (fun H locs hR hS => ?_)
  refine lv_iconst (v := 0) hx hb dX17_column_78 (by decide) ?_
  refine lv_istore (lv' := [(4, .int 0), (3, .int 48), (2, .int 0), (0, .ref x0), (1, .int x1)]) hx hb dX17_column_79 hl (by decide) rfl (fun ls hl => ?_)
  exact lk_X17_column_81 K sv_fuel hw hR hS (lv_sub hl [3, 2, 1, 0] rfl)
set_option maxHeartbeats 4000000 in
set_option maxRecDepth 100000 in
theorem mt_X17_column (l : Launch) (G : sv_G) (B : Nat) {x0 : Nat} {x1 : Int32} {h : sv_H} {r : Unit} {hE : sv_H} (hw : fn_X17_column x0 x1 h = some (r, hE)) : Met l yX17_column (.code yX17_column cX17_column 13 none :: sv_tb) rm_X17_column (sv_Pc G B [.ref x0, .int x1] h) (sv_Q G B none hE) 0 0 (fun q => B ≤ q) := by
  refine Met.ofW (cc := cX17_column) (maxL := 13) (ret := none) (by decide +kernel) rfl ?_
  intro p e s m args below meth c s₁ Bd hml hv
  obtain ⟨rfl, hR, hC, hB⟩ := hv
  have hl := lv_entry ([.ref x0, .int x1]) (n := 13) (Nat.le_of_ble_eq_true rfl)
  rw [lg_entry_eq]
  generalize (lg_sl ([.ref x0, .int x1]) ++ List.replicate (13 - (lg_sl ([.ref x0, .int x1])).length) Slot.unset).toArray = ls at hl ⊢
  have hl : lv_has ls 13 [(0, .ref x0), (1, .int x1)] := hl
  exact lk_X17_column_0 ⟨Bd.exec, Bd.bytes, hml, findClass_of_methodNamed Bd.named, fun w h => atoms_spec (ws := .code yX17_column cX17_column 13 none :: sv_tb) Bd.pre w (List.mem_cons_of_mem _ h), hC, Bd.notSynchronized, Bd.returns, hB, (name_of_methodNamed Bd.named Bd.method).1⟩ hw hR va_S.rf hl

def rm_X17_pixelAt : Room := { frames := 9, cells := 0, slots := 0, locals := 229 }
theorem fl_X17_pixelAt_60 {s : State} {meth : Method} {args : Array Value} {G : sv_G} {B : Nat} (hts : ∀ w ∈ sv_tb, w.before args s = true) (hC : sv_Cx G B s s.heap) (hni : meth.name = "pixelAt") : sv_FL s meth args vwCl RX17 60 17 0 .int true :=
  ⟨_, RX17, TX17, 29, sv_tb, tyX17, rfl, by decide, hts, uw_X17, Or.inl (hts _ wd_1691), fun _ h => h, tyX17_ok 0 (by decide), tyX17_ok, nmX17, fun _ => Or.inl rfl⟩
theorem fl_X17_pixelAt_54 {s : State} {meth : Method} {args : Array Value} {G : sv_G} {B : Nat} (hts : ∀ w ∈ sv_tb, w.before args s = true) (hC : sv_Cx G B s s.heap) (hni : meth.name = "pixelAt") : sv_FL s meth args vwCl RX17 54 17 25 (.array .int) false :=
  ⟨_, RX17, TX17, 29, sv_tb, tyX17, rfl, by decide, hts, uw_X17, Or.inl (hts _ wd_1716), fun _ h => h, tyX17_ok 25 (by decide), tyX17_ok, nmX17, fun h => by cases h⟩
set_option maxHeartbeats 4000000 in
set_option maxRecDepth 100000 in
theorem lk_X17_pixelAt_0 {p : Program} {l : Launch} {e : Env} {s : State} {m : MethodId} {args : Array Value} {below : List Frame} {meth : Method} {c : Code} {G : sv_G} {B : Nat} (K : sv_W p s m args meth c cX17_pixelAt RX17 3 (some .int) G B "pixelAt") {r : Int32} {hE : sv_H} {x0 : Nat} {x1 : Int32} {x2 : Int32} {h : sv_H} (hw : fn_X17_pixelAt x0 x1 x2 h = some (r, hE)) {H : Heap} {locs : List Loc} {ls : Array Slot} (hR : sv_R G vwCl sv_ft B h H) (hS : va_S (fun q => B ≤ q) s.heap H locs) (hl : lv_has ls 3 [(0, .ref x0), (1, .int x1), (2, .int x2)]) : W p l e rm_X17_pixelAt s m args below meth c H locs 0 0 (sv_Z below s args G B (some (.int r)) hE) (F0 m 0 ls []) := by
  obtain ⟨hx, hb, hml, hown, hts, hC, hlk, hr, hBs, hni⟩ := id K
  unfold fn_X17_pixelAt at hw
  have hw := (sv_go hw).2
  refine lv_aload_n hx hb dX17_pixelAt_0 rfl (lv_at hl 0 rfl) ?_
  refine lv_iconst (v := 0) hx hb dX17_pixelAt_1 (by decide) ?_
  obtain ⟨h1, hv, hw⟩ := sv_bd hw
  refine sv_rpI hx hb hown hC.1 hR hS (fl_X17_pixelAt_60 hts hC hni) rfl (by decide) rfl rfl hv dX17_pixelAt_2 (fun H locs hR hS => ?_)
  refine lv_aload_n hx hb dX17_pixelAt_5 rfl (lv_at hl 0 rfl) ?_
  refine lv_iload_n hx hb dX17_pixelAt_6 rfl (lv_at hl 1 rfl) ?_
  refine lv_iload_n hx hb dX17_pixelAt_7 rfl (lv_at hl 2 rfl) ?_
  obtain ⟨r2, h3, hv1, hw⟩ := sv_b_some hw
  refine sv_call (va_runV (As := [.int x1, .int x2]) (rest := []) ⟨hx, hb, hml, hown, hts⟩ (mt_X17_isPixel l G B hv1) (cwV 2 hts (sv_gV wd_2015 wd_2017 wd_89 wd_144 wd_2018) rfl rfl rfl (by decide +kernel) ⟨Nat.le_of_ble_eq_true rfl, Nat.le_of_ble_eq_true rfl⟩) ⟨sv_blind, sv_recv hC.1 hR (ci := 17) (sv_go hv1).1 (by decide) rfl, fun U hU hW => sv_pre hC hR hS hBs hU hW⟩ rfl rfl hl.1 rfl (lv_room (Nat.le_of_ble_eq_true rfl)) dX17_pixelAt_8 ⟨Nat.zero_le _, Nat.zero_le _⟩) hS (fun H locs hR hS => ?_)
  refine lv_if_ne (tgt := 16) hx hb dX17_pixelAt_11 (by decide) (fun cc => ?_) (fun cc => ?_)
  · have hw := sv_iff cc hw
    refine lv_aload_n hx hb dX17_pixelAt_16 rfl (lv_at hl 0 rfl) ?_
    refine lv_iload_n hx hb dX17_pixelAt_17 rfl (lv_at hl 1 rfl) ?_
    obtain ⟨_, h4, hv2, hw⟩ := sv_b_some hw
    refine sv_call (va_runV (As := [.int x1]) (rest := []) ⟨hx, hb, hml, hown, hts⟩ (mt_X17_column l G B hv2) (cwV 1 hts (sv_gV wd_2019 wd_2021 wd_90 wd_144 wd_2022) rfl rfl rfl (by decide +kernel) ⟨Nat.le_of_ble_eq_true rfl, Nat.le_of_ble_eq_true rfl⟩) ⟨sv_blind, sv_recv hC.1 hR (ci := 17) (sv_go hv2).1 (by decide) rfl, fun U hU hW => sv_pre hC hR hS hBs hU hW⟩ rfl rfl hl.1 rfl (lv_room (Nat.le_of_ble_eq_true rfl)) dX17_pixelAt_18 ⟨Nat.zero_le _, Nat.zero_le _⟩) hS (fun H locs hR hS => ?_)
    refine lv_aload_n hx hb dX17_pixelAt_21 rfl (lv_at hl 0 rfl) ?_
    obtain ⟨v5, hv, hw⟩ := sv_bd hw
    refine sv_rgP hx hb hown hC.1 hR (fl_X17_pixelAt_54 hts hC hni) rfl (by decide) rfl rfl hv dX17_pixelAt_22 ?_
    refine lv_iload_n hx hb dX17_pixelAt_25 rfl (lv_at hl 2 rfl) ?_
    obtain ⟨v6, hv, hw⟩ := sv_bd hw
    refine sv_rlI hx hb hC.1 rfl hR hv dX17_pixelAt_26 ?_
    obtain ⟨rfl, rfl⟩ := sv_ret hw
    exact W.iret hx hb hr (fun t ht hW => ⟨⟨rfl, by rw [ht]; exact hR⟩, hS.F ht⟩) hS.2.2 dX17_pixelAt_27
  · have hw := sv_ift cc hw
    refine lv_iconst (v := (-1)) hx hb dX17_pixelAt_14 (by decide) ?_
    obtain ⟨rfl, rfl⟩ := sv_ret hw
    exact W.iret hx hb hr (fun t ht hW => ⟨⟨rfl, by rw [ht]; exact hR⟩, hS.F ht⟩) hS.2.2 dX17_pixelAt_15
set_option maxHeartbeats 4000000 in
set_option maxRecDepth 100000 in
theorem mt_X17_pixelAt (l : Launch) (G : sv_G) (B : Nat) {x0 : Nat} {x1 : Int32} {x2 : Int32} {h : sv_H} {r : Int32} {hE : sv_H} (hw : fn_X17_pixelAt x0 x1 x2 h = some (r, hE)) : Met l yX17_pixelAt (.code yX17_pixelAt cX17_pixelAt 3 (some .int) :: sv_tb) rm_X17_pixelAt (sv_Pc G B [.ref x0, .int x1, .int x2] h) (sv_Q G B (some (.int r)) hE) 0 0 (fun q => B ≤ q) := by
  refine Met.ofW (cc := cX17_pixelAt) (maxL := 3) (ret := (some .int)) (by decide +kernel) rfl ?_
  intro p e s m args below meth c s₁ Bd hml hv
  obtain ⟨rfl, hR, hC, hB⟩ := hv
  have hl := lv_entry ([.ref x0, .int x1, .int x2]) (n := 3) (Nat.le_of_ble_eq_true rfl)
  rw [lg_entry_eq]
  generalize (lg_sl ([.ref x0, .int x1, .int x2]) ++ List.replicate (3 - (lg_sl ([.ref x0, .int x1, .int x2])).length) Slot.unset).toArray = ls at hl ⊢
  have hl : lv_has ls 3 [(0, .ref x0), (1, .int x1), (2, .int x2)] := hl
  exact lk_X17_pixelAt_0 ⟨Bd.exec, Bd.bytes, hml, findClass_of_methodNamed Bd.named, fun w h => atoms_spec (ws := .code yX17_pixelAt cX17_pixelAt 3 (some .int) :: sv_tb) Bd.pre w (List.mem_cons_of_mem _ h), hC, Bd.notSynchronized, Bd.returns, hB, (name_of_methodNamed Bd.named Bd.method).1⟩ hw hR va_S.rf hl

def rm_X12_surfaceAt : Room := { frames := 6, cells := 0, slots := 0, locals := 163 }
theorem fl_X12_surfaceAt_62 {s : State} {meth : Method} {args : Array Value} {G : sv_G} {B : Nat} (hts : ∀ w ∈ sv_tb, w.before args s = true) (hC : sv_Cx G B s s.heap) (hni : meth.name = "surfaceAt") : sv_FL s meth args vwCl RX12 62 12 5 (.object "SectorView$View") false :=
  ⟨_, RX12, TX12, 11, sv_tb, tyX12, rfl, by decide, hts, uw_X12, Or.inl (hts _ wd_690), fun _ h => h, tyX12_ok 5 (by decide), tyX12_ok, nmX12, fun h => by cases h⟩
theorem fl_X12_surfaceAt_53 {s : State} {meth : Method} {args : Array Value} {G : sv_G} {B : Nat} (hts : ∀ w ∈ sv_tb, w.before args s = true) (hC : sv_Cx G B s s.heap) (hni : meth.name = "surfaceAt") : sv_FL s meth args vwCl RX12 53 12 4 (.object "SectorView$Walk") false :=
  ⟨_, RX12, TX12, 11, sv_tb, tyX12, rfl, by decide, hts, uw_X12, Or.inl (hts _ wd_689), fun _ h => h, tyX12_ok 4 (by decide), tyX12_ok, nmX12, fun h => by cases h⟩
theorem fl_X12_surfaceAt_233 {s : State} {meth : Method} {args : Array Value} {G : sv_G} {B : Nat} (hts : ∀ w ∈ sv_tb, w.before args s = true) (hC : sv_Cx G B s s.heap) (hni : meth.name = "surfaceAt") : sv_FL s meth args vwCl RX12 233 9 1 (.array .int) false :=
  ⟨_, RX9, TX9, 8, sv_tb, tyX9, rfl, by decide, hts, uw_X9, Or.inl (hts _ wd_637), fun _ h => h, tyX9_ok 1 (by decide), tyX9_ok, nmX9, fun h => by cases h⟩
set_option maxHeartbeats 4000000 in
set_option maxRecDepth 100000 in
theorem lk_X12_surfaceAt_18 {p : Program} {l : Launch} {e : Env} {s : State} {m : MethodId} {args : Array Value} {below : List Frame} {meth : Method} {c : Code} {G : sv_G} {B : Nat} (K : sv_W p s m args meth c cX12_surfaceAt RX12 3 (some .int) G B "surfaceAt") {r : Int32} {hE : sv_H} {h : sv_H} (hw : fn_X12_surfaceAt_18 h = some (r, hE)) {H : Heap} {locs : List Loc} {ls : Array Slot} (hR : sv_R G vwCl sv_ft B h H) (hS : va_S (fun q => B ≤ q) s.heap H locs) (hl : lv_has ls 3 []) : W p l e rm_X12_surfaceAt s m args below meth c H locs 0 0 (sv_Z below s args G B (some (.int r)) hE) (F0 m 18 ls []) := by
  obtain ⟨hx, hb, hml, hown, hts, hC, hlk, hr, hBs, hni⟩ := id K
  unfold fn_X12_surfaceAt_18 at hw
  refine lv_iconst (v := (-1)) hx hb dX12_surfaceAt_18 (by decide) ?_
  obtain ⟨rfl, rfl⟩ := sv_ret hw
  exact W.iret hx hb hr (fun t ht hW => ⟨⟨rfl, by rw [ht]; exact hR⟩, hS.F ht⟩) hS.2.2 dX12_surfaceAt_19
set_option maxHeartbeats 4000000 in
set_option maxRecDepth 100000 in
theorem lk_X12_surfaceAt_0 {p : Program} {l : Launch} {e : Env} {s : State} {m : MethodId} {args : Array Value} {below : List Frame} {meth : Method} {c : Code} {G : sv_G} {B : Nat} (K : sv_W p s m args meth c cX12_surfaceAt RX12 3 (some .int) G B "surfaceAt") {r : Int32} {hE : sv_H} {x0 : Nat} {x1 : Int32} {x2 : Int32} {h : sv_H} (hw : fn_X12_surfaceAt x0 x1 x2 h = some (r, hE)) {H : Heap} {locs : List Loc} {ls : Array Slot} (hR : sv_R G vwCl sv_ft B h H) (hS : va_S (fun q => B ≤ q) s.heap H locs) (hl : lv_has ls 3 [(0, .ref x0), (1, .int x1), (2, .int x2)]) : W p l e rm_X12_surfaceAt s m args below meth c H locs 0 0 (sv_Z below s args G B (some (.int r)) hE) (F0 m 0 ls []) := by
  obtain ⟨hx, hb, hml, hown, hts, hC, hlk, hr, hBs, hni⟩ := id K
  unfold fn_X12_surfaceAt at hw
  have hw := (sv_go hw).2
  refine lv_aload_n hx hb dX12_surfaceAt_0 rfl (lv_at hl 0 rfl) ?_
  refine lv_iload_n hx hb dX12_surfaceAt_1 rfl (lv_at hl 1 rfl) ?_
  obtain ⟨r1, h2, hv1, hw⟩ := sv_b_some hw
  refine sv_call (va_runV (As := [.int x1]) (rest := []) ⟨hx, hb, hml, hown, hts⟩ (mt_X12_isSeen l G B hv1) (cwV 1 hts (sv_gV wd_1278 wd_1280 wd_45 wd_131 wd_1281) rfl rfl rfl (by decide +kernel) ⟨Nat.le_of_ble_eq_true rfl, Nat.le_of_ble_eq_true rfl⟩) ⟨sv_blind, sv_recv hC.1 hR (ci := 12) (sv_go hv1).1 (by decide) rfl, fun U hU hW => sv_pre hC hR hS hBs hU hW⟩ rfl rfl hl.1 rfl (lv_room (Nat.le_of_ble_eq_true rfl)) dX12_surfaceAt_2 ⟨Nat.zero_le _, Nat.zero_le _⟩) hS (fun H locs hR hS => ?_)
  refine lv_if_eq (tgt := 18) hx hb dX12_surfaceAt_5 (by decide) (fun cc => ?_) (fun cc => ?_)
  · have hw := sv_ift cc hw
    exact lk_X12_surfaceAt_18 K hw hR hS (lv_sub hl [] rfl)
  · have hw := sv_iff cc hw
    refine lv_iload_n hx hb dX12_surfaceAt_8 rfl (lv_at hl 2 rfl) ?_
    refine lv_if_lt (tgt := 18) hx hb dX12_surfaceAt_9 (by decide) (fun cc => ?_) (fun cc => ?_)
    · have hw := sv_ift cc hw
      exact lk_X12_surfaceAt_18 K hw hR hS (lv_sub hl [] rfl)
    · have hw := sv_iff cc hw
      refine lv_iload_n hx hb dX12_surfaceAt_12 rfl (lv_at hl 2 rfl) ?_
      refine lv_bipush (v := 48) hx hb dX12_surfaceAt_13 (by decide) ?_
      refine lv_icmp_lt (tgt := 20) hx hb dX12_surfaceAt_15 (by decide) (fun cc => ?_) (fun cc => ?_)
      · have hw := sv_ift cc hw
        refine lv_aload_n hx hb dX12_surfaceAt_20 rfl (lv_at hl 0 rfl) ?_
        obtain ⟨v3, hv, hw⟩ := sv_bd hw
        refine sv_rgP hx hb hown hC.1 hR (fl_X12_surfaceAt_62 hts hC hni) rfl (by decide) rfl rfl hv dX12_surfaceAt_21 ?_
        refine lv_aload_n hx hb dX12_surfaceAt_24 rfl (lv_at hl 0 rfl) ?_
        obtain ⟨v4, hv, hw⟩ := sv_bd hw
        refine sv_rgP hx hb hown hC.1 hR (fl_X12_surfaceAt_53 hts hC hni) rfl (by decide) rfl rfl hv dX12_surfaceAt_25 ?_
        refine lv_iload_n hx hb dX12_surfaceAt_28 rfl (lv_at hl 1 rfl) ?_
        obtain ⟨_, h5, hv2, hw⟩ := sv_b_some hw
        refine sv_call (va_runV (As := [.ref v4, .int x1]) (rest := []) ⟨hx, hb, hml, hown, hts⟩ (mt_X9_look l G B hv2) (cwV 2 hts (sv_gV wd_1282 wd_1283 wd_1284 wd_142 wd_1285) rfl rfl rfl (by decide +kernel) ⟨Nat.le_of_ble_eq_true rfl, Nat.le_of_ble_eq_true rfl⟩) ⟨sv_blind, sv_recv hC.1 hR (ci := 9) (sv_go hv2).1 (by decide) rfl, fun U hU hW => sv_pre hC hR hS hBs hU hW⟩ rfl rfl hl.1 rfl (lv_room (Nat.le_of_ble_eq_true rfl)) dX12_surfaceAt_29 ⟨Nat.zero_le _, Nat.zero_le _⟩) hS (fun H locs hR hS => ?_)
        refine lv_aload_n hx hb dX12_surfaceAt_32 rfl (lv_at hl 0 rfl) ?_
        obtain ⟨v6, hv, hw⟩ := sv_bd hw
        refine sv_rgP hx hb hown hC.1 hR (fl_X12_surfaceAt_62 hts hC hni) rfl (by decide) rfl rfl hv dX12_surfaceAt_33 ?_
        obtain ⟨v7, hv, hw⟩ := sv_bd hw
        refine sv_rgP hx hb hown hC.1 hR (fl_X12_surfaceAt_233 hts hC hni) rfl (by decide) rfl rfl hv dX12_surfaceAt_36 ?_
        refine lv_iload_n hx hb dX12_surfaceAt_39 rfl (lv_at hl 2 rfl) ?_
        obtain ⟨v8, hv, hw⟩ := sv_bd hw
        refine sv_rlI hx hb hC.1 rfl hR hv dX12_surfaceAt_40 ?_
        obtain ⟨rfl, rfl⟩ := sv_ret hw
        exact W.iret hx hb hr (fun t ht hW => ⟨⟨rfl, by rw [ht]; exact hR⟩, hS.F ht⟩) hS.2.2 dX12_surfaceAt_41
      · have hw := sv_iff cc hw
        exact lk_X12_surfaceAt_18 K hw hR hS (lv_sub hl [] rfl)
set_option maxHeartbeats 4000000 in
set_option maxRecDepth 100000 in
theorem mt_X12_surfaceAt (l : Launch) (G : sv_G) (B : Nat) {x0 : Nat} {x1 : Int32} {x2 : Int32} {h : sv_H} {r : Int32} {hE : sv_H} (hw : fn_X12_surfaceAt x0 x1 x2 h = some (r, hE)) : Met l yX12_surfaceAt (.code yX12_surfaceAt cX12_surfaceAt 3 (some .int) :: sv_tb) rm_X12_surfaceAt (sv_Pc G B [.ref x0, .int x1, .int x2] h) (sv_Q G B (some (.int r)) hE) 0 0 (fun q => B ≤ q) := by
  refine Met.ofW (cc := cX12_surfaceAt) (maxL := 3) (ret := (some .int)) (by decide +kernel) rfl ?_
  intro p e s m args below meth c s₁ Bd hml hv
  obtain ⟨rfl, hR, hC, hB⟩ := hv
  have hl := lv_entry ([.ref x0, .int x1, .int x2]) (n := 3) (Nat.le_of_ble_eq_true rfl)
  rw [lg_entry_eq]
  generalize (lg_sl ([.ref x0, .int x1, .int x2]) ++ List.replicate (3 - (lg_sl ([.ref x0, .int x1, .int x2])).length) Slot.unset).toArray = ls at hl ⊢
  have hl : lv_has ls 3 [(0, .ref x0), (1, .int x1), (2, .int x2)] := hl
  exact lk_X12_surfaceAt_0 ⟨Bd.exec, Bd.bytes, hml, findClass_of_methodNamed Bd.named, fun w h => atoms_spec (ws := .code yX12_surfaceAt cX12_surfaceAt 3 (some .int) :: sv_tb) Bd.pre w (List.mem_cons_of_mem _ h), hC, Bd.notSynchronized, Bd.returns, hB, (name_of_methodNamed Bd.named Bd.method).1⟩ hw hR va_S.rf hl

def rm_X17_surfaceAt : Room := { frames := 9, cells := 0, slots := 0, locals := 229 }
theorem fl_X17_surfaceAt_60 {s : State} {meth : Method} {args : Array Value} {G : sv_G} {B : Nat} (hts : ∀ w ∈ sv_tb, w.before args s = true) (hC : sv_Cx G B s s.heap) (hni : meth.name = "surfaceAt") : sv_FL s meth args vwCl RX17 60 17 0 .int true :=
  ⟨_, RX17, TX17, 29, sv_tb, tyX17, rfl, by decide, hts, uw_X17, Or.inl (hts _ wd_1691), fun _ h => h, tyX17_ok 0 (by decide), tyX17_ok, nmX17, fun _ => Or.inl rfl⟩
theorem fl_X17_surfaceAt_51 {s : State} {meth : Method} {args : Array Value} {G : sv_G} {B : Nat} (hts : ∀ w ∈ sv_tb, w.before args s = true) (hC : sv_Cx G B s s.heap) (hni : meth.name = "surfaceAt") : sv_FL s meth args vwCl RX17 51 17 24 (.array .int) false :=
  ⟨_, RX17, TX17, 29, sv_tb, tyX17, rfl, by decide, hts, uw_X17, Or.inl (hts _ wd_1715), fun _ h => h, tyX17_ok 24 (by decide), tyX17_ok, nmX17, fun h => by cases h⟩
set_option maxHeartbeats 4000000 in
set_option maxRecDepth 100000 in
theorem lk_X17_surfaceAt_0 {p : Program} {l : Launch} {e : Env} {s : State} {m : MethodId} {args : Array Value} {below : List Frame} {meth : Method} {c : Code} {G : sv_G} {B : Nat} (K : sv_W p s m args meth c cX17_surfaceAt RX17 3 (some .int) G B "surfaceAt") {r : Int32} {hE : sv_H} {x0 : Nat} {x1 : Int32} {x2 : Int32} {h : sv_H} (hw : fn_X17_surfaceAt x0 x1 x2 h = some (r, hE)) {H : Heap} {locs : List Loc} {ls : Array Slot} (hR : sv_R G vwCl sv_ft B h H) (hS : va_S (fun q => B ≤ q) s.heap H locs) (hl : lv_has ls 3 [(0, .ref x0), (1, .int x1), (2, .int x2)]) : W p l e rm_X17_surfaceAt s m args below meth c H locs 0 0 (sv_Z below s args G B (some (.int r)) hE) (F0 m 0 ls []) := by
  obtain ⟨hx, hb, hml, hown, hts, hC, hlk, hr, hBs, hni⟩ := id K
  unfold fn_X17_surfaceAt at hw
  have hw := (sv_go hw).2
  refine lv_aload_n hx hb dX17_surfaceAt_0 rfl (lv_at hl 0 rfl) ?_
  refine lv_iconst (v := 0) hx hb dX17_surfaceAt_1 (by decide) ?_
  obtain ⟨h1, hv, hw⟩ := sv_bd hw
  refine sv_rpI hx hb hown hC.1 hR hS (fl_X17_surfaceAt_60 hts hC hni) rfl (by decide) rfl rfl hv dX17_surfaceAt_2 (fun H locs hR hS => ?_)
  refine lv_aload_n hx hb dX17_surfaceAt_5 rfl (lv_at hl 0 rfl) ?_
  refine lv_iload_n hx hb dX17_surfaceAt_6 rfl (lv_at hl 1 rfl) ?_
  refine lv_iload_n hx hb dX17_surfaceAt_7 rfl (lv_at hl 2 rfl) ?_
  obtain ⟨r2, h3, hv1, hw⟩ := sv_b_some hw
  refine sv_call (va_runV (As := [.int x1, .int x2]) (rest := []) ⟨hx, hb, hml, hown, hts⟩ (mt_X17_isPixel l G B hv1) (cwV 2 hts (sv_gV wd_2015 wd_2017 wd_89 wd_144 wd_2018) rfl rfl rfl (by decide +kernel) ⟨Nat.le_of_ble_eq_true rfl, Nat.le_of_ble_eq_true rfl⟩) ⟨sv_blind, sv_recv hC.1 hR (ci := 17) (sv_go hv1).1 (by decide) rfl, fun U hU hW => sv_pre hC hR hS hBs hU hW⟩ rfl rfl hl.1 rfl (lv_room (Nat.le_of_ble_eq_true rfl)) dX17_surfaceAt_8 ⟨Nat.zero_le _, Nat.zero_le _⟩) hS (fun H locs hR hS => ?_)
  refine lv_if_ne (tgt := 16) hx hb dX17_surfaceAt_11 (by decide) (fun cc => ?_) (fun cc => ?_)
  · have hw := sv_iff cc hw
    refine lv_aload_n hx hb dX17_surfaceAt_16 rfl (lv_at hl 0 rfl) ?_
    refine lv_iload_n hx hb dX17_surfaceAt_17 rfl (lv_at hl 1 rfl) ?_
    obtain ⟨_, h4, hv2, hw⟩ := sv_b_some hw
    refine sv_call (va_runV (As := [.int x1]) (rest := []) ⟨hx, hb, hml, hown, hts⟩ (mt_X17_column l G B hv2) (cwV 1 hts (sv_gV wd_2019 wd_2021 wd_90 wd_144 wd_2022) rfl rfl rfl (by decide +kernel) ⟨Nat.le_of_ble_eq_true rfl, Nat.le_of_ble_eq_true rfl⟩) ⟨sv_blind, sv_recv hC.1 hR (ci := 17) (sv_go hv2).1 (by decide) rfl, fun U hU hW => sv_pre hC hR hS hBs hU hW⟩ rfl rfl hl.1 rfl (lv_room (Nat.le_of_ble_eq_true rfl)) dX17_surfaceAt_18 ⟨Nat.zero_le _, Nat.zero_le _⟩) hS (fun H locs hR hS => ?_)
    refine lv_aload_n hx hb dX17_surfaceAt_21 rfl (lv_at hl 0 rfl) ?_
    obtain ⟨v5, hv, hw⟩ := sv_bd hw
    refine sv_rgP hx hb hown hC.1 hR (fl_X17_surfaceAt_51 hts hC hni) rfl (by decide) rfl rfl hv dX17_surfaceAt_22 ?_
    refine lv_iload_n hx hb dX17_surfaceAt_25 rfl (lv_at hl 2 rfl) ?_
    obtain ⟨v6, hv, hw⟩ := sv_bd hw
    refine sv_rlI hx hb hC.1 rfl hR hv dX17_surfaceAt_26 ?_
    obtain ⟨rfl, rfl⟩ := sv_ret hw
    exact W.iret hx hb hr (fun t ht hW => ⟨⟨rfl, by rw [ht]; exact hR⟩, hS.F ht⟩) hS.2.2 dX17_surfaceAt_27
  · have hw := sv_ift cc hw
    refine lv_iconst (v := (-1)) hx hb dX17_surfaceAt_14 (by decide) ?_
    obtain ⟨rfl, rfl⟩ := sv_ret hw
    exact W.iret hx hb hr (fun t ht hW => ⟨⟨rfl, by rw [ht]; exact hR⟩, hS.F ht⟩) hS.2.2 dX17_surfaceAt_15
set_option maxHeartbeats 4000000 in
set_option maxRecDepth 100000 in
theorem mt_X17_surfaceAt (l : Launch) (G : sv_G) (B : Nat) {x0 : Nat} {x1 : Int32} {x2 : Int32} {h : sv_H} {r : Int32} {hE : sv_H} (hw : fn_X17_surfaceAt x0 x1 x2 h = some (r, hE)) : Met l yX17_surfaceAt (.code yX17_surfaceAt cX17_surfaceAt 3 (some .int) :: sv_tb) rm_X17_surfaceAt (sv_Pc G B [.ref x0, .int x1, .int x2] h) (sv_Q G B (some (.int r)) hE) 0 0 (fun q => B ≤ q) := by
  refine Met.ofW (cc := cX17_surfaceAt) (maxL := 3) (ret := (some .int)) (by decide +kernel) rfl ?_
  intro p e s m args below meth c s₁ Bd hml hv
  obtain ⟨rfl, hR, hC, hB⟩ := hv
  have hl := lv_entry ([.ref x0, .int x1, .int x2]) (n := 3) (Nat.le_of_ble_eq_true rfl)
  rw [lg_entry_eq]
  generalize (lg_sl ([.ref x0, .int x1, .int x2]) ++ List.replicate (3 - (lg_sl ([.ref x0, .int x1, .int x2])).length) Slot.unset).toArray = ls at hl ⊢
  have hl : lv_has ls 3 [(0, .ref x0), (1, .int x1), (2, .int x2)] := hl
  exact lk_X17_surfaceAt_0 ⟨Bd.exec, Bd.bytes, hml, findClass_of_methodNamed Bd.named, fun w h => atoms_spec (ws := .code yX17_surfaceAt cX17_surfaceAt 3 (some .int) :: sv_tb) Bd.pre w (List.mem_cons_of_mem _ h), hC, Bd.notSynchronized, Bd.returns, hB, (name_of_methodNamed Bd.named Bd.method).1⟩ hw hR va_S.rf hl

def rm_X12_metAt : Room := { frames := 6, cells := 0, slots := 0, locals := 163 }
theorem fl_X12_metAt_62 {s : State} {meth : Method} {args : Array Value} {G : sv_G} {B : Nat} (hts : ∀ w ∈ sv_tb, w.before args s = true) (hC : sv_Cx G B s s.heap) (hni : meth.name = "metAt") : sv_FL s meth args vwCl RX12 62 12 5 (.object "SectorView$View") false :=
  ⟨_, RX12, TX12, 11, sv_tb, tyX12, rfl, by decide, hts, uw_X12, Or.inl (hts _ wd_690), fun _ h => h, tyX12_ok 5 (by decide), tyX12_ok, nmX12, fun h => by cases h⟩
theorem fl_X12_metAt_53 {s : State} {meth : Method} {args : Array Value} {G : sv_G} {B : Nat} (hts : ∀ w ∈ sv_tb, w.before args s = true) (hC : sv_Cx G B s s.heap) (hni : meth.name = "metAt") : sv_FL s meth args vwCl RX12 53 12 4 (.object "SectorView$Walk") false :=
  ⟨_, RX12, TX12, 11, sv_tb, tyX12, rfl, by decide, hts, uw_X12, Or.inl (hts _ wd_689), fun _ h => h, tyX12_ok 4 (by decide), tyX12_ok, nmX12, fun h => by cases h⟩
theorem fl_X12_metAt_236 {s : State} {meth : Method} {args : Array Value} {G : sv_G} {B : Nat} (hts : ∀ w ∈ sv_tb, w.before args s = true) (hC : sv_Cx G B s s.heap) (hni : meth.name = "metAt") : sv_FL s meth args vwCl RX12 236 9 4 .int true :=
  ⟨_, RX9, TX9, 8, sv_tb, tyX9, rfl, by decide, hts, uw_X9, Or.inl (hts _ wd_643), fun _ h => h, tyX9_ok 4 (by decide), tyX9_ok, nmX9, fun _ => Or.inl rfl⟩
theorem fl_X12_metAt_239 {s : State} {meth : Method} {args : Array Value} {G : sv_G} {B : Nat} (hts : ∀ w ∈ sv_tb, w.before args s = true) (hC : sv_Cx G B s s.heap) (hni : meth.name = "metAt") : sv_FL s meth args vwCl RX12 239 9 3 (.array .int) false :=
  ⟨_, RX9, TX9, 8, sv_tb, tyX9, rfl, by decide, hts, uw_X9, Or.inl (hts _ wd_641), fun _ h => h, tyX9_ok 3 (by decide), tyX9_ok, nmX9, fun h => by cases h⟩
set_option maxHeartbeats 4000000 in
set_option maxRecDepth 100000 in
theorem lk_X12_metAt_12 {p : Program} {l : Launch} {e : Env} {s : State} {m : MethodId} {args : Array Value} {below : List Frame} {meth : Method} {c : Code} {G : sv_G} {B : Nat} (K : sv_W p s m args meth c cX12_metAt RX12 3 (some .int) G B "metAt") {r : Int32} {hE : sv_H} {h : sv_H} (hw : fn_X12_metAt_12 h = some (r, hE)) {H : Heap} {locs : List Loc} {ls : Array Slot} (hR : sv_R G vwCl sv_ft B h H) (hS : va_S (fun q => B ≤ q) s.heap H locs) (hl : lv_has ls 3 []) : W p l e rm_X12_metAt s m args below meth c H locs 0 0 (sv_Z below s args G B (some (.int r)) hE) (F0 m 12 ls []) := by
  obtain ⟨hx, hb, hml, hown, hts, hC, hlk, hr, hBs, hni⟩ := id K
  unfold fn_X12_metAt_12 at hw
  refine lv_iconst (v := (-1)) hx hb dX12_metAt_12 (by decide) ?_
  obtain ⟨rfl, rfl⟩ := sv_ret hw
  exact W.iret hx hb hr (fun t ht hW => ⟨⟨rfl, by rw [ht]; exact hR⟩, hS.F ht⟩) hS.2.2 dX12_metAt_13
set_option maxHeartbeats 4000000 in
set_option maxRecDepth 100000 in
theorem lk_X12_metAt_50 {p : Program} {l : Launch} {e : Env} {s : State} {m : MethodId} {args : Array Value} {below : List Frame} {meth : Method} {c : Code} {G : sv_G} {B : Nat} (K : sv_W p s m args meth c cX12_metAt RX12 3 (some .int) G B "metAt") {r : Int32} {hE : sv_H} {s0 : Int32} {h : sv_H} (hw : fn_X12_metAt_50 s0 h = some (r, hE)) {H : Heap} {locs : List Loc} {ls : Array Slot} (hR : sv_R G vwCl sv_ft B h H) (hS : va_S (fun q => B ≤ q) s.heap H locs) (hl : lv_has ls 3 []) : W p l e rm_X12_metAt s m args below meth c H locs 0 0 (sv_Z below s args G B (some (.int r)) hE) (F0 m 50 ls [.int s0]) := by
  obtain ⟨hx, hb, hml, hown, hts, hC, hlk, hr, hBs, hni⟩ := id K
  unfold fn_X12_metAt_50 at hw
  obtain ⟨rfl, rfl⟩ := sv_ret hw
  exact W.iret hx hb hr (fun t ht hW => ⟨⟨rfl, by rw [ht]; exact hR⟩, hS.F ht⟩) hS.2.2 dX12_metAt_50
set_option maxHeartbeats 4000000 in
set_option maxRecDepth 100000 in
theorem lk_X12_metAt_0 {p : Program} {l : Launch} {e : Env} {s : State} {m : MethodId} {args : Array Value} {below : List Frame} {meth : Method} {c : Code} {G : sv_G} {B : Nat} (K : sv_W p s m args meth c cX12_metAt RX12 3 (some .int) G B "metAt") {r : Int32} {hE : sv_H} {x0 : Nat} {x1 : Int32} {x2 : Int32} {h : sv_H} (hw : fn_X12_metAt x0 x1 x2 h = some (r, hE)) {H : Heap} {locs : List Loc} {ls : Array Slot} (hR : sv_R G vwCl sv_ft B h H) (hS : va_S (fun q => B ≤ q) s.heap H locs) (hl : lv_has ls 3 [(0, .ref x0), (1, .int x1), (2, .int x2)]) : W p l e rm_X12_metAt s m args below meth c H locs 0 0 (sv_Z below s args G B (some (.int r)) hE) (F0 m 0 ls []) := by
  obtain ⟨hx, hb, hml, hown, hts, hC, hlk, hr, hBs, hni⟩ := id K
  unfold fn_X12_metAt at hw
  have hw := (sv_go hw).2
  refine lv_aload_n hx hb dX12_metAt_0 rfl (lv_at hl 0 rfl) ?_
  refine lv_iload_n hx hb dX12_metAt_1 rfl (lv_at hl 1 rfl) ?_
  obtain ⟨r1, h2, hv1, hw⟩ := sv_b_some hw
  refine sv_call (va_runV (As := [.int x1]) (rest := []) ⟨hx, hb, hml, hown, hts⟩ (mt_X12_isSeen l G B hv1) (cwV 1 hts (sv_gV wd_1278 wd_1280 wd_45 wd_131 wd_1281) rfl rfl rfl (by decide +kernel) ⟨Nat.le_of_ble_eq_true rfl, Nat.le_of_ble_eq_true rfl⟩) ⟨sv_blind, sv_recv hC.1 hR (ci := 12) (sv_go hv1).1 (by decide) rfl, fun U hU hW => sv_pre hC hR hS hBs hU hW⟩ rfl rfl hl.1 rfl (lv_room (Nat.le_of_ble_eq_true rfl)) dX12_metAt_2 ⟨Nat.zero_le _, Nat.zero_le _⟩) hS (fun H locs hR hS => ?_)
  refine lv_if_eq (tgt := 12) hx hb dX12_metAt_5 (by decide) (fun cc => ?_) (fun cc => ?_)
  · have hw := sv_ift cc hw
    exact lk_X12_metAt_12 K hw hR hS (lv_sub hl [] rfl)
  · have hw := sv_iff cc hw
    refine lv_iload_n hx hb dX12_metAt_8 rfl (lv_at hl 2 rfl) ?_
    refine lv_if_ge (tgt := 14) hx hb dX12_metAt_9 (by decide) (fun cc => ?_) (fun cc => ?_)
    · have hw := sv_ift cc hw
      refine lv_aload_n hx hb dX12_metAt_14 rfl (lv_at hl 0 rfl) ?_
      obtain ⟨v3, hv, hw⟩ := sv_bd hw
      refine sv_rgP hx hb hown hC.1 hR (fl_X12_metAt_62 hts hC hni) rfl (by decide) rfl rfl hv dX12_metAt_15 ?_
      refine lv_aload_n hx hb dX12_metAt_18 rfl (lv_at hl 0 rfl) ?_
      obtain ⟨v4, hv, hw⟩ := sv_bd hw
      refine sv_rgP hx hb hown hC.1 hR (fl_X12_metAt_53 hts hC hni) rfl (by decide) rfl rfl hv dX12_metAt_19 ?_
      refine lv_iload_n hx hb dX12_metAt_22 rfl (lv_at hl 1 rfl) ?_
      obtain ⟨_, h5, hv2, hw⟩ := sv_b_some hw
      refine sv_call (va_runV (As := [.ref v4, .int x1]) (rest := []) ⟨hx, hb, hml, hown, hts⟩ (mt_X9_look l G B hv2) (cwV 2 hts (sv_gV wd_1282 wd_1283 wd_1284 wd_142 wd_1285) rfl rfl rfl (by decide +kernel) ⟨Nat.le_of_ble_eq_true rfl, Nat.le_of_ble_eq_true rfl⟩) ⟨sv_blind, sv_recv hC.1 hR (ci := 9) (sv_go hv2).1 (by decide) rfl, fun U hU hW => sv_pre hC hR hS hBs hU hW⟩ rfl rfl hl.1 rfl (lv_room (Nat.le_of_ble_eq_true rfl)) dX12_metAt_23 ⟨Nat.zero_le _, Nat.zero_le _⟩) hS (fun H locs hR hS => ?_)
      refine lv_iload_n hx hb dX12_metAt_26 rfl (lv_at hl 2 rfl) ?_
      refine lv_aload_n hx hb dX12_metAt_27 rfl (lv_at hl 0 rfl) ?_
      obtain ⟨v6, hv, hw⟩ := sv_bd hw
      refine sv_rgP hx hb hown hC.1 hR (fl_X12_metAt_62 hts hC hni) rfl (by decide) rfl rfl hv dX12_metAt_28 ?_
      obtain ⟨v7, hv, hw⟩ := sv_bd hw
      refine sv_rgI hx hb hown hC.1 hR (fl_X12_metAt_236 hts hC hni) rfl (by decide) rfl rfl hv dX12_metAt_31 ?_
      refine lv_icmp_ge (tgt := 49) hx hb dX12_metAt_34 (by decide) (fun cc => ?_) (fun cc => ?_)
      · have hw := sv_ift cc hw
        refine lv_iconst (v := (-1)) hx hb dX12_metAt_49 (by decide) ?_
        exact lk_X12_metAt_50 K hw hR hS (lv_sub hl [] rfl)
      · have hw := sv_iff cc hw
        refine lv_aload_n hx hb dX12_metAt_37 rfl (lv_at hl 0 rfl) ?_
        obtain ⟨v8, hv, hw⟩ := sv_bd hw
        refine sv_rgP hx hb hown hC.1 hR (fl_X12_metAt_62 hts hC hni) rfl (by decide) rfl rfl hv dX12_metAt_38 ?_
        obtain ⟨v9, hv, hw⟩ := sv_bd hw
        refine sv_rgP hx hb hown hC.1 hR (fl_X12_metAt_239 hts hC hni) rfl (by decide) rfl rfl hv dX12_metAt_41 ?_
        refine lv_iload_n hx hb dX12_metAt_44 rfl (lv_at hl 2 rfl) ?_
        obtain ⟨v10, hv, hw⟩ := sv_bd hw
        refine sv_rlI hx hb hC.1 rfl hR hv dX12_metAt_45 ?_
        refine lv_goto (tgt := 50) hx hb dX12_metAt_46 (by decide) ?_
        exact lk_X12_metAt_50 K hw hR hS (lv_sub hl [] rfl)
    · have hw := sv_iff cc hw
      exact lk_X12_metAt_12 K hw hR hS (lv_sub hl [] rfl)
set_option maxHeartbeats 4000000 in
set_option maxRecDepth 100000 in
theorem mt_X12_metAt (l : Launch) (G : sv_G) (B : Nat) {x0 : Nat} {x1 : Int32} {x2 : Int32} {h : sv_H} {r : Int32} {hE : sv_H} (hw : fn_X12_metAt x0 x1 x2 h = some (r, hE)) : Met l yX12_metAt (.code yX12_metAt cX12_metAt 3 (some .int) :: sv_tb) rm_X12_metAt (sv_Pc G B [.ref x0, .int x1, .int x2] h) (sv_Q G B (some (.int r)) hE) 0 0 (fun q => B ≤ q) := by
  refine Met.ofW (cc := cX12_metAt) (maxL := 3) (ret := (some .int)) (by decide +kernel) rfl ?_
  intro p e s m args below meth c s₁ Bd hml hv
  obtain ⟨rfl, hR, hC, hB⟩ := hv
  have hl := lv_entry ([.ref x0, .int x1, .int x2]) (n := 3) (Nat.le_of_ble_eq_true rfl)
  rw [lg_entry_eq]
  generalize (lg_sl ([.ref x0, .int x1, .int x2]) ++ List.replicate (3 - (lg_sl ([.ref x0, .int x1, .int x2])).length) Slot.unset).toArray = ls at hl ⊢
  have hl : lv_has ls 3 [(0, .ref x0), (1, .int x1), (2, .int x2)] := hl
  exact lk_X12_metAt_0 ⟨Bd.exec, Bd.bytes, hml, findClass_of_methodNamed Bd.named, fun w h => atoms_spec (ws := .code yX12_metAt cX12_metAt 3 (some .int) :: sv_tb) Bd.pre w (List.mem_cons_of_mem _ h), hC, Bd.notSynchronized, Bd.returns, hB, (name_of_methodNamed Bd.named Bd.method).1⟩ hw hR va_S.rf hl

def rm_X17_metAt : Room := { frames := 9, cells := 0, slots := 0, locals := 229 }
theorem fl_X17_metAt_60 {s : State} {meth : Method} {args : Array Value} {G : sv_G} {B : Nat} (hts : ∀ w ∈ sv_tb, w.before args s = true) (hC : sv_Cx G B s s.heap) (hni : meth.name = "metAt") : sv_FL s meth args vwCl RX17 60 17 0 .int true :=
  ⟨_, RX17, TX17, 29, sv_tb, tyX17, rfl, by decide, hts, uw_X17, Or.inl (hts _ wd_1691), fun _ h => h, tyX17_ok 0 (by decide), tyX17_ok, nmX17, fun _ => Or.inl rfl⟩
theorem fl_X17_metAt_279 {s : State} {meth : Method} {args : Array Value} {G : sv_G} {B : Nat} (hts : ∀ w ∈ sv_tb, w.before args s = true) (hC : sv_Cx G B s s.heap) (hni : meth.name = "metAt") : sv_FL s meth args vwCl RX17 279 17 23 .int true :=
  ⟨_, RX17, TX17, 29, sv_tb, tyX17, rfl, by decide, hts, uw_X17, Or.inl (hts _ wd_1714), fun _ h => h, tyX17_ok 23 (by decide), tyX17_ok, nmX17, fun _ => Or.inl rfl⟩
theorem fl_X17_metAt_48 {s : State} {meth : Method} {args : Array Value} {G : sv_G} {B : Nat} (hts : ∀ w ∈ sv_tb, w.before args s = true) (hC : sv_Cx G B s s.heap) (hni : meth.name = "metAt") : sv_FL s meth args vwCl RX17 48 17 22 (.array .int) false :=
  ⟨_, RX17, TX17, 29, sv_tb, tyX17, rfl, by decide, hts, uw_X17, Or.inl (hts _ wd_1713), fun _ h => h, tyX17_ok 22 (by decide), tyX17_ok, nmX17, fun h => by cases h⟩
set_option maxHeartbeats 4000000 in
set_option maxRecDepth 100000 in
theorem lk_X17_metAt_43 {p : Program} {l : Launch} {e : Env} {s : State} {m : MethodId} {args : Array Value} {below : List Frame} {meth : Method} {c : Code} {G : sv_G} {B : Nat} (K : sv_W p s m args meth c cX17_metAt RX17 3 (some .int) G B "metAt") {r : Int32} {hE : sv_H} {s0 : Int32} {h : sv_H} (hw : fn_X17_metAt_43 s0 h = some (r, hE)) {H : Heap} {locs : List Loc} {ls : Array Slot} (hR : sv_R G vwCl sv_ft B h H) (hS : va_S (fun q => B ≤ q) s.heap H locs) (hl : lv_has ls 3 []) : W p l e rm_X17_metAt s m args below meth c H locs 0 0 (sv_Z below s args G B (some (.int r)) hE) (F0 m 43 ls [.int s0]) := by
  obtain ⟨hx, hb, hml, hown, hts, hC, hlk, hr, hBs, hni⟩ := id K
  unfold fn_X17_metAt_43 at hw
  obtain ⟨rfl, rfl⟩ := sv_ret hw
  exact W.iret hx hb hr (fun t ht hW => ⟨⟨rfl, by rw [ht]; exact hR⟩, hS.F ht⟩) hS.2.2 dX17_metAt_43
set_option maxHeartbeats 4000000 in
set_option maxRecDepth 100000 in
theorem lk_X17_metAt_42 {p : Program} {l : Launch} {e : Env} {s : State} {m : MethodId} {args : Array Value} {below : List Frame} {meth : Method} {c : Code} {G : sv_G} {B : Nat} (K : sv_W p s m args meth c cX17_metAt RX17 3 (some .int) G B "metAt") {r : Int32} {hE : sv_H} {h : sv_H} (hw : fn_X17_metAt_42 h = some (r, hE)) {H : Heap} {locs : List Loc} {ls : Array Slot} (hR : sv_R G vwCl sv_ft B h H) (hS : va_S (fun q => B ≤ q) s.heap H locs) (hl : lv_has ls 3 []) : W p l e rm_X17_metAt s m args below meth c H locs 0 0 (sv_Z below s args G B (some (.int r)) hE) (F0 m 42 ls []) := by
  obtain ⟨hx, hb, hml, hown, hts, hC, hlk, hr, hBs, hni⟩ := id K
  unfold fn_X17_metAt_42 at hw
  refine lv_iconst (v := (-1)) hx hb dX17_metAt_42 (by decide) ?_
  exact lk_X17_metAt_43 K hw hR hS (lv_sub hl [] rfl)
set_option maxHeartbeats 4000000 in
set_option maxRecDepth 100000 in
theorem lk_X17_metAt_0 {p : Program} {l : Launch} {e : Env} {s : State} {m : MethodId} {args : Array Value} {below : List Frame} {meth : Method} {c : Code} {G : sv_G} {B : Nat} (K : sv_W p s m args meth c cX17_metAt RX17 3 (some .int) G B "metAt") {r : Int32} {hE : sv_H} {x0 : Nat} {x1 : Int32} {x2 : Int32} {h : sv_H} (hw : fn_X17_metAt x0 x1 x2 h = some (r, hE)) {H : Heap} {locs : List Loc} {ls : Array Slot} (hR : sv_R G vwCl sv_ft B h H) (hS : va_S (fun q => B ≤ q) s.heap H locs) (hl : lv_has ls 3 [(0, .ref x0), (1, .int x1), (2, .int x2)]) : W p l e rm_X17_metAt s m args below meth c H locs 0 0 (sv_Z below s args G B (some (.int r)) hE) (F0 m 0 ls []) := by
  obtain ⟨hx, hb, hml, hown, hts, hC, hlk, hr, hBs, hni⟩ := id K
  unfold fn_X17_metAt at hw
  have hw := (sv_go hw).2
  refine lv_aload_n hx hb dX17_metAt_0 rfl (lv_at hl 0 rfl) ?_
  refine lv_iconst (v := 0) hx hb dX17_metAt_1 (by decide) ?_
  obtain ⟨h1, hv, hw⟩ := sv_bd hw
  refine sv_rpI hx hb hown hC.1 hR hS (fl_X17_metAt_60 hts hC hni) rfl (by decide) rfl rfl hv dX17_metAt_2 (fun H locs hR hS => ?_)
  refine lv_aload_n hx hb dX17_metAt_5 rfl (lv_at hl 0 rfl) ?_
  refine lv_iload_n hx hb dX17_metAt_6 rfl (lv_at hl 1 rfl) ?_
  refine lv_iconst (v := 0) hx hb dX17_metAt_7 (by decide) ?_
  obtain ⟨r2, h3, hv1, hw⟩ := sv_b_some hw
  refine sv_call (va_runV (As := [.int x1, .int 0]) (rest := []) ⟨hx, hb, hml, hown, hts⟩ (mt_X17_isPixel l G B hv1) (cwV 2 hts (sv_gV wd_2015 wd_2017 wd_89 wd_144 wd_2018) rfl rfl rfl (by decide +kernel) ⟨Nat.le_of_ble_eq_true rfl, Nat.le_of_ble_eq_true rfl⟩) ⟨sv_blind, sv_recv hC.1 hR (ci := 17) (sv_go hv1).1 (by decide) rfl, fun U hU hW => sv_pre hC hR hS hBs hU hW⟩ rfl rfl hl.1 rfl (lv_room (Nat.le_of_ble_eq_true rfl)) dX17_metAt_8 ⟨Nat.zero_le _, Nat.zero_le _⟩) hS (fun H locs hR hS => ?_)
  refine lv_if_ne (tgt := 16) hx hb dX17_metAt_11 (by decide) (fun cc => ?_) (fun cc => ?_)
  · have hw := sv_iff cc hw
    refine lv_aload_n hx hb dX17_metAt_16 rfl (lv_at hl 0 rfl) ?_
    refine lv_iload_n hx hb dX17_metAt_17 rfl (lv_at hl 1 rfl) ?_
    obtain ⟨_, h4, hv2, hw⟩ := sv_b_some hw
    refine sv_call (va_runV (As := [.int x1]) (rest := []) ⟨hx, hb, hml, hown, hts⟩ (mt_X17_column l G B hv2) (cwV 1 hts (sv_gV wd_2019 wd_2021 wd_90 wd_144 wd_2022) rfl rfl rfl (by decide +kernel) ⟨Nat.le_of_ble_eq_true rfl, Nat.le_of_ble_eq_true rfl⟩) ⟨sv_blind, sv_recv hC.1 hR (ci := 17) (sv_go hv2).1 (by decide) rfl, fun U hU hW => sv_pre hC hR hS hBs hU hW⟩ rfl rfl hl.1 rfl (lv_room (Nat.le_of_ble_eq_true rfl)) dX17_metAt_18 ⟨Nat.zero_le _, Nat.zero_le _⟩) hS (fun H locs hR hS => ?_)
    refine lv_iload_n hx hb dX17_metAt_21 rfl (lv_at hl 2 rfl) ?_
    refine lv_if_lt (tgt := 42) hx hb dX17_metAt_22 (by decide) (fun cc => ?_) (fun cc => ?_)
    · have hw := sv_ift cc hw
      exact lk_X17_metAt_42 K hw hR hS (lv_sub hl [] rfl)
    · have hw := sv_iff cc hw
      refine lv_iload_n hx hb dX17_metAt_25 rfl (lv_at hl 2 rfl) ?_
      refine lv_aload_n hx hb dX17_metAt_26 rfl (lv_at hl 0 rfl) ?_
      obtain ⟨v5, hv, hw⟩ := sv_bd hw
      refine sv_rgI hx hb hown hC.1 hR (fl_X17_metAt_279 hts hC hni) rfl (by decide) rfl rfl hv dX17_metAt_27 ?_
      refine lv_icmp_ge (tgt := 42) hx hb dX17_metAt_30 (by decide) (fun cc => ?_) (fun cc => ?_)
      · have hw := sv_ift cc hw
        exact lk_X17_metAt_42 K hw hR hS (lv_sub hl [] rfl)
      · have hw := sv_iff cc hw
        refine lv_aload_n hx hb dX17_metAt_33 rfl (lv_at hl 0 rfl) ?_
        obtain ⟨v6, hv, hw⟩ := sv_bd hw
        refine sv_rgP hx hb hown hC.1 hR (fl_X17_metAt_48 hts hC hni) rfl (by decide) rfl rfl hv dX17_metAt_34 ?_
        refine lv_iload_n hx hb dX17_metAt_37 rfl (lv_at hl 2 rfl) ?_
        obtain ⟨v7, hv, hw⟩ := sv_bd hw
        refine sv_rlI hx hb hC.1 rfl hR hv dX17_metAt_38 ?_
        refine lv_goto (tgt := 43) hx hb dX17_metAt_39 (by decide) ?_
        exact lk_X17_metAt_43 K hw hR hS (lv_sub hl [] rfl)
  · have hw := sv_ift cc hw
    refine lv_iconst (v := (-1)) hx hb dX17_metAt_14 (by decide) ?_
    obtain ⟨rfl, rfl⟩ := sv_ret hw
    exact W.iret hx hb hr (fun t ht hW => ⟨⟨rfl, by rw [ht]; exact hR⟩, hS.F ht⟩) hS.2.2 dX17_metAt_15
set_option maxHeartbeats 4000000 in
set_option maxRecDepth 100000 in
theorem mt_X17_metAt (l : Launch) (G : sv_G) (B : Nat) {x0 : Nat} {x1 : Int32} {x2 : Int32} {h : sv_H} {r : Int32} {hE : sv_H} (hw : fn_X17_metAt x0 x1 x2 h = some (r, hE)) : Met l yX17_metAt (.code yX17_metAt cX17_metAt 3 (some .int) :: sv_tb) rm_X17_metAt (sv_Pc G B [.ref x0, .int x1, .int x2] h) (sv_Q G B (some (.int r)) hE) 0 0 (fun q => B ≤ q) := by
  refine Met.ofW (cc := cX17_metAt) (maxL := 3) (ret := (some .int)) (by decide +kernel) rfl ?_
  intro p e s m args below meth c s₁ Bd hml hv
  obtain ⟨rfl, hR, hC, hB⟩ := hv
  have hl := lv_entry ([.ref x0, .int x1, .int x2]) (n := 3) (Nat.le_of_ble_eq_true rfl)
  rw [lg_entry_eq]
  generalize (lg_sl ([.ref x0, .int x1, .int x2]) ++ List.replicate (3 - (lg_sl ([.ref x0, .int x1, .int x2])).length) Slot.unset).toArray = ls at hl ⊢
  have hl : lv_has ls 3 [(0, .ref x0), (1, .int x1), (2, .int x2)] := hl
  exact lk_X17_metAt_0 ⟨Bd.exec, Bd.bytes, hml, findClass_of_methodNamed Bd.named, fun w h => atoms_spec (ws := .code yX17_metAt cX17_metAt 3 (some .int) :: sv_tb) Bd.pre w (List.mem_cons_of_mem _ h), hC, Bd.notSynchronized, Bd.returns, hB, (name_of_methodNamed Bd.named Bd.method).1⟩ hw hR va_S.rf hl

def rm_X12_frameOf : Room := { frames := 6, cells := 0, slots := 0, locals := 163 }
theorem fl_X12_frameOf_62 {s : State} {meth : Method} {args : Array Value} {G : sv_G} {B : Nat} (hts : ∀ w ∈ sv_tb, w.before args s = true) (hC : sv_Cx G B s s.heap) (hni : meth.name = "frameOf") : sv_FL s meth args vwCl RX12 62 12 5 (.object "SectorView$View") false :=
  ⟨_, RX12, TX12, 11, sv_tb, tyX12, rfl, by decide, hts, uw_X12, Or.inl (hts _ wd_690), fun _ h => h, tyX12_ok 5 (by decide), tyX12_ok, nmX12, fun h => by cases h⟩
theorem fl_X12_frameOf_230 {s : State} {meth : Method} {args : Array Value} {G : sv_G} {B : Nat} (hts : ∀ w ∈ sv_tb, w.before args s = true) (hC : sv_Cx G B s s.heap) (hni : meth.name = "frameOf") : sv_FL s meth args vwCl RX12 230 9 2 (.array .int) false :=
  ⟨_, RX9, TX9, 8, sv_tb, tyX9, rfl, by decide, hts, uw_X9, Or.inl (hts _ wd_639), fun _ h => h, tyX9_ok 2 (by decide), tyX9_ok, nmX9, fun h => by cases h⟩
theorem fl_X12_frameOf_53 {s : State} {meth : Method} {args : Array Value} {G : sv_G} {B : Nat} (hts : ∀ w ∈ sv_tb, w.before args s = true) (hC : sv_Cx G B s s.heap) (hni : meth.name = "frameOf") : sv_FL s meth args vwCl RX12 53 12 4 (.object "SectorView$Walk") false :=
  ⟨_, RX12, TX12, 11, sv_tb, tyX12, rfl, by decide, hts, uw_X12, Or.inl (hts _ wd_689), fun _ h => h, tyX12_ok 4 (by decide), tyX12_ok, nmX12, fun h => by cases h⟩
set_option maxHeartbeats 4000000 in
set_option maxRecDepth 100000 in
theorem lk_X12_frameOf_62b {p : Program} {l : Launch} {e : Env} {s : State} {m : MethodId} {args : Array Value} {below : List Frame} {meth : Method} {c : Code} {G : sv_G} {B : Nat} (K : sv_W p s m args meth c cX12_frameOf RX12 9 (some .long) G B "frameOf") {r : Int64} {hE : sv_H} {k36 : Nat → Int64 → Int64 → Int32 → sv_H → Option (Int64 × sv_H)} (hk36 : ∀ {x0 : Nat} {x1 : Int64} {x3 : Int64} {x5 : Int32} {h : sv_H}, k36 x0 x1 x3 x5 h = some (r, hE) → ∀ {H : Heap} {locs : List Loc} {ls : Array Slot}, sv_R G vwCl sv_ft B h H → va_S (fun q => B ≤ q) s.heap H locs → lv_has ls 9 [(0, .ref x0), (1, .long x1), (3, .long x3), (5, .int x5)] → W p l e rm_X12_frameOf s m args below meth c H locs 0 0 (sv_Z below s args G B (some (.long r)) hE) (F0 m 36 ls [])) {k62 : Nat → Int64 → Int64 → Int32 → Int64 → Int32 → sv_H → Option (Int64 × sv_H)} (hk62 : ∀ {x0 : Nat} {x1 : Int64} {x3 : Int64} {x5 : Int32} {x6 : Int64} {x8 : Int32} {h : sv_H}, k62 x0 x1 x3 x5 x6 x8 h = some (r, hE) → ∀ {H : Heap} {locs : List Loc} {ls : Array Slot}, sv_R G vwCl sv_ft B h H → va_S (fun q => B ≤ q) s.heap H locs → lv_has ls 9 [(0, .ref x0), (1, .long x1), (3, .long x3), (5, .int x5), (6, .long x6), (8, .int x8)] → W p l e rm_X12_frameOf s m args below meth c H locs 0 0 (sv_Z below s args G B (some (.long r)) hE) (F0 m 62 ls [])) {x0 : Nat} {x1 : Int64} {x3 : Int64} {x5 : Int32} {x6 : Int64} {x8 : Int32} {h : sv_H} (hw : fn_X12_frameOf_62b k36 k62 x0 x1 x3 x5 x6 x8 h = some (r, hE)) {H : Heap} {locs : List Loc} {ls : Array Slot} (hR : sv_R G vwCl sv_ft B h H) (hS : va_S (fun q => B ≤ q) s.heap H locs) (hl : lv_has ls 9 [(0, .ref x0), (1, .long x1), (3, .long x3), (5, .int x5), (6, .long x6), (8, .int x8)]) : W p l e rm_X12_frameOf s m args below meth c H locs 0 0 (sv_Z below s args G B (some (.long r)) hE) (F0 m 62 ls []) := by
  obtain ⟨hx, hb, hml, hown, hts, hC, hlk, hr, hBs, hni⟩ := id K
  unfold fn_X12_frameOf_62b at hw
  refine lv_iload hx hb dX12_frameOf_62 (lv_at hl 5 rfl) ?_
  refine lv_bipush (v := 48) hx hb dX12_frameOf_64 (by decide) ?_
  refine lv_icmp_ge (tgt := 93) hx hb dX12_frameOf_66 (by decide) (fun cc => ?_) (fun cc => ?_)
  · have hw := sv_ift cc hw
    refine lv_ldc2 (v := 31) hx hb hown (hts _ wd_1372) dX12_frameOf_93 ?_
    refine lv_lload_n hx hb dX12_frameOf_96 rfl (lv_at hl 2 rfl) ?_
    refine lv_lmul hx hb dX12_frameOf_97 ?_
    refine lv_lload hx hb dX12_frameOf_98 (lv_at hl 4 rfl) ?_
    refine lv_ladd hx hb dX12_frameOf_100 ?_
    refine lv_lstore_n (lv' := [(3, .long ((31 * x3) + x6)), (0, .ref x0), (1, .long x1), (5, .int x5), (6, .long x6), (8, .int x8)]) hx hb dX12_frameOf_101 rfl hl (by decide) rfl (fun ls hl => ?_)
    refine lv_iinc (v := x5 + 1) (lv' := [(5, .int (x5 + 1)), (3, .long ((31 * x3) + x6)), (0, .ref x0), (1, .long x1), (6, .long x6), (8, .int x8)]) hx hb dX12_frameOf_102 hl (k := 3) rfl rfl (by decide) rfl (fun ls hl => ?_)
    refine lv_goto (tgt := 36) hx hb dX12_frameOf_105 (by decide) ?_
    exact hk36 hw hR hS (lv_sub hl [2, 3, 1, 0] rfl)
  · have hw := sv_iff cc hw
    refine lv_lload_n hx hb dX12_frameOf_69 rfl (lv_at hl 1 rfl) ?_
    refine lv_lload hx hb dX12_frameOf_70 (lv_at hl 4 rfl) ?_
    refine lv_lmul hx hb dX12_frameOf_72 ?_
    refine lv_aload_n hx hb dX12_frameOf_73 rfl (lv_at hl 0 rfl) ?_
    obtain ⟨v1, hv, hw⟩ := sv_bd hw
    refine sv_rgP hx hb hown hC.1 hR (fl_X12_frameOf_62 hts hC hni) rfl (by decide) rfl rfl hv dX12_frameOf_74 ?_
    obtain ⟨v2, hv, hw⟩ := sv_bd hw
    refine sv_rgP hx hb hown hC.1 hR (fl_X12_frameOf_230 hts hC hni) rfl (by decide) rfl rfl hv dX12_frameOf_77 ?_
    refine lv_iload hx hb dX12_frameOf_80 (lv_at hl 5 rfl) ?_
    obtain ⟨v3, hv, hw⟩ := sv_bd hw
    refine sv_rlI hx hb hC.1 rfl hR hv dX12_frameOf_82 ?_
    refine lv_i2l hx hb dX12_frameOf_83 rfl ?_
    refine lv_ladd hx hb dX12_frameOf_84 ?_
    refine lv_lstore (lv' := [(6, .long ((x1 * x6) + (Int32.toInt64 v3))), (0, .ref x0), (1, .long x1), (3, .long x3), (5, .int x5), (8, .int x8)]) hx hb dX12_frameOf_85 hl (by decide) rfl (fun ls hl => ?_)
    refine lv_iinc (v := x8 + 1) (lv' := [(8, .int (x8 + 1)), (6, .long ((x1 * x6) + (Int32.toInt64 v3))), (0, .ref x0), (1, .long x1), (3, .long x3), (5, .int x5)]) hx hb dX12_frameOf_87 hl (k := 5) rfl rfl (by decide) rfl (fun ls hl => ?_)
    refine lv_goto (tgt := 62) hx hb dX12_frameOf_90 (by decide) ?_
    exact hk62 hw hR hS (lv_sub hl [2, 3, 4, 5, 1, 0] rfl)
theorem lk_X12_frameOf_62 {p : Program} {l : Launch} {e : Env} {s : State} {m : MethodId} {args : Array Value} {below : List Frame} {meth : Method} {c : Code} {G : sv_G} {B : Nat} (K : sv_W p s m args meth c cX12_frameOf RX12 9 (some .long) G B "frameOf") {r : Int64} {hE : sv_H} {k36 : Nat → Int64 → Int64 → Int32 → sv_H → Option (Int64 × sv_H)} (hk36 : ∀ {x0 : Nat} {x1 : Int64} {x3 : Int64} {x5 : Int32} {h : sv_H}, k36 x0 x1 x3 x5 h = some (r, hE) → ∀ {H : Heap} {locs : List Loc} {ls : Array Slot}, sv_R G vwCl sv_ft B h H → va_S (fun q => B ≤ q) s.heap H locs → lv_has ls 9 [(0, .ref x0), (1, .long x1), (3, .long x3), (5, .int x5)] → W p l e rm_X12_frameOf s m args below meth c H locs 0 0 (sv_Z below s args G B (some (.long r)) hE) (F0 m 36 ls [])) : ∀ (n : Nat) {x0 : Nat} {x1 : Int64} {x3 : Int64} {x5 : Int32} {x6 : Int64} {x8 : Int32} {h : sv_H}, fn_X12_frameOf_62 k36 n x0 x1 x3 x5 x6 x8 h = some (r, hE) → ∀ {H : Heap} {locs : List Loc} {ls : Array Slot}, sv_R G vwCl sv_ft B h H → va_S (fun q => B ≤ q) s.heap H locs → lv_has ls 9 [(0, .ref x0), (1, .long x1), (3, .long x3), (5, .int x5), (6, .long x6), (8, .int x8)] → W p l e rm_X12_frameOf s m args below meth c H locs 0 0 (sv_Z below s args G B (some (.long r)) hE) (F0 m 62 ls []) := by
  intro n
  induction n with
  | zero => intro x0 x1 x3 x5 x6 x8 h hw; cases (show (none : Option (Int64 × sv_H)) = some (r, hE) from hw)
  | succ n ih => intro x0 x1 x3 x5 x6 x8 h hw H locs ls hR hS hl; exact lk_X12_frameOf_62b K hk36 (fun hw => ih hw) hw hR hS hl
set_option maxHeartbeats 4000000 in
set_option maxRecDepth 100000 in
theorem lk_X12_frameOf_36b {p : Program} {l : Launch} {e : Env} {s : State} {m : MethodId} {args : Array Value} {below : List Frame} {meth : Method} {c : Code} {G : sv_G} {B : Nat} (K : sv_W p s m args meth c cX12_frameOf RX12 9 (some .long) G B "frameOf") {r : Int64} {hE : sv_H} {k36 : Nat → Int64 → Int64 → Int32 → sv_H → Option (Int64 × sv_H)} (hk36 : ∀ {x0 : Nat} {x1 : Int64} {x3 : Int64} {x5 : Int32} {h : sv_H}, k36 x0 x1 x3 x5 h = some (r, hE) → ∀ {H : Heap} {locs : List Loc} {ls : Array Slot}, sv_R G vwCl sv_ft B h H → va_S (fun q => B ≤ q) s.heap H locs → lv_has ls 9 [(0, .ref x0), (1, .long x1), (3, .long x3), (5, .int x5)] → W p l e rm_X12_frameOf s m args below meth c H locs 0 0 (sv_Z below s args G B (some (.long r)) hE) (F0 m 36 ls [])) {x0 : Nat} {x1 : Int64} {x3 : Int64} {x5 : Int32} {h : sv_H} (hw : fn_X12_frameOf_36b k36 x0 x1 x3 x5 h = some (r, hE)) {H : Heap} {locs : List Loc} {ls : Array Slot} (hR : sv_R G vwCl sv_ft B h H) (hS : va_S (fun q => B ≤ q) s.heap H locs) (hl : lv_has ls 9 [(0, .ref x0), (1, .long x1), (3, .long x3), (5, .int x5)]) : W p l e rm_X12_frameOf s m args below meth c H locs 0 0 (sv_Z below s args G B (some (.long r)) hE) (F0 m 36 ls []) := by
  obtain ⟨hx, hb, hml, hown, hts, hC, hlk, hr, hBs, hni⟩ := id K
  unfold fn_X12_frameOf_36b at hw
  refine lv_iload hx hb dX12_frameOf_36 (lv_at hl 3 rfl) ?_
  refine lv_bipush (v := 64) hx hb dX12_frameOf_38 (by decide) ?_
  refine lv_icmp_ge (tgt := 108) hx hb dX12_frameOf_40 (by decide) (fun cc => ?_) (fun cc => ?_)
  · have hw := sv_ift cc hw
    refine lv_lload_n hx hb dX12_frameOf_108 rfl (lv_at hl 2 rfl) ?_
    obtain ⟨rfl, rfl⟩ := sv_ret hw
    exact W.lret hx hb hr (fun t ht hW => ⟨⟨rfl, by rw [ht]; exact hR⟩, hS.F ht⟩) hS.2.2 dX12_frameOf_109
  · have hw := sv_iff cc hw
    refine lv_aload_n hx hb dX12_frameOf_43 rfl (lv_at hl 0 rfl) ?_
    obtain ⟨v1, hv, hw⟩ := sv_bd hw
    refine sv_rgP hx hb hown hC.1 hR (fl_X12_frameOf_62 hts hC hni) rfl (by decide) rfl rfl hv dX12_frameOf_44 ?_
    refine lv_aload_n hx hb dX12_frameOf_47 rfl (lv_at hl 0 rfl) ?_
    obtain ⟨v2, hv, hw⟩ := sv_bd hw
    refine sv_rgP hx hb hown hC.1 hR (fl_X12_frameOf_53 hts hC hni) rfl (by decide) rfl rfl hv dX12_frameOf_48 ?_
    refine lv_iload hx hb dX12_frameOf_51 (lv_at hl 3 rfl) ?_
    obtain ⟨_, h3, hv1, hw⟩ := sv_b_some hw
    refine sv_call (va_runV (As := [.ref v2, .int x5]) (rest := []) ⟨hx, hb, hml, hown, hts⟩ (mt_X9_look l G B hv1) (cwV 2 hts (sv_gV wd_1282 wd_1283 wd_1284 wd_142 wd_1285) rfl rfl rfl (by decide +kernel) ⟨Nat.le_of_ble_eq_true rfl, Nat.le_of_ble_eq_true rfl⟩) ⟨sv_blind, sv_recv hC.1 hR (ci := 9) (sv_go hv1).1 (by decide) rfl, fun U hU hW => sv_pre hC hR hS hBs hU hW⟩ rfl rfl hl.1 rfl (lv_room (Nat.le_of_ble_eq_true rfl)) dX12_frameOf_53 ⟨Nat.zero_le _, Nat.zero_le _⟩) hS (fun H locs hR hS => ?_)
    refine lv_lconst (v := 0) hx hb dX12_frameOf_56 (by decide) ?_
    refine lv_lstore (lv' := [(6, .long 0), (0, .ref x0), (1, .long x1), (3, .long x3), (5, .int x5)]) hx hb dX12_frameOf_57 hl (by decide) rfl (fun ls hl => ?_)
    refine lv_iconst (v := 0) hx hb dX12_frameOf_59 (by decide) ?_
    refine lv_istore (lv' := [(8, .int 0), (6, .long 0), (0, .ref x0), (1, .long x1), (3, .long x3), (5, .int x5)]) hx hb dX12_frameOf_60 hl (by decide) rfl (fun ls hl => ?_)
    exact lk_X12_frameOf_62 K hk36 sv_fuel hw hR hS (lv_sub hl [2, 3, 4, 5, 1, 0] rfl)
theorem lk_X12_frameOf_36 {p : Program} {l : Launch} {e : Env} {s : State} {m : MethodId} {args : Array Value} {below : List Frame} {meth : Method} {c : Code} {G : sv_G} {B : Nat} (K : sv_W p s m args meth c cX12_frameOf RX12 9 (some .long) G B "frameOf") {r : Int64} {hE : sv_H} : ∀ (n : Nat) {x0 : Nat} {x1 : Int64} {x3 : Int64} {x5 : Int32} {h : sv_H}, fn_X12_frameOf_36 n x0 x1 x3 x5 h = some (r, hE) → ∀ {H : Heap} {locs : List Loc} {ls : Array Slot}, sv_R G vwCl sv_ft B h H → va_S (fun q => B ≤ q) s.heap H locs → lv_has ls 9 [(0, .ref x0), (1, .long x1), (3, .long x3), (5, .int x5)] → W p l e rm_X12_frameOf s m args below meth c H locs 0 0 (sv_Z below s args G B (some (.long r)) hE) (F0 m 36 ls []) := by
  intro n
  induction n with
  | zero => intro x0 x1 x3 x5 h hw; cases (show (none : Option (Int64 × sv_H)) = some (r, hE) from hw)
  | succ n ih => intro x0 x1 x3 x5 h hw H locs ls hR hS hl; exact lk_X12_frameOf_36b K (fun hw => ih hw) hw hR hS hl
set_option maxHeartbeats 4000000 in
set_option maxRecDepth 100000 in
theorem lk_X12_frameOf_13b {p : Program} {l : Launch} {e : Env} {s : State} {m : MethodId} {args : Array Value} {below : List Frame} {meth : Method} {c : Code} {G : sv_G} {B : Nat} (K : sv_W p s m args meth c cX12_frameOf RX12 9 (some .long) G B "frameOf") {r : Int64} {hE : sv_H} {k13 : Nat → Int64 → Int32 → sv_H → Option (Int64 × sv_H)} (hk13 : ∀ {x0 : Nat} {x1 : Int64} {x3 : Int32} {h : sv_H}, k13 x0 x1 x3 h = some (r, hE) → ∀ {H : Heap} {locs : List Loc} {ls : Array Slot}, sv_R G vwCl sv_ft B h H → va_S (fun q => B ≤ q) s.heap H locs → lv_has ls 9 [(0, .ref x0), (1, .long x1), (3, .int x3)] → W p l e rm_X12_frameOf s m args below meth c H locs 0 0 (sv_Z below s args G B (some (.long r)) hE) (F0 m 13 ls [])) {x0 : Nat} {x1 : Int64} {x3 : Int32} {h : sv_H} (hw : fn_X12_frameOf_13b k13 x0 x1 x3 h = some (r, hE)) {H : Heap} {locs : List Loc} {ls : Array Slot} (hR : sv_R G vwCl sv_ft B h H) (hS : va_S (fun q => B ≤ q) s.heap H locs) (hl : lv_has ls 9 [(0, .ref x0), (1, .long x1), (3, .int x3)]) : W p l e rm_X12_frameOf s m args below meth c H locs 0 0 (sv_Z below s args G B (some (.long r)) hE) (F0 m 13 ls []) := by
  obtain ⟨hx, hb, hml, hown, hts, hC, hlk, hr, hBs, hni⟩ := id K
  unfold fn_X12_frameOf_13b at hw
  refine lv_iload_n hx hb dX12_frameOf_13 rfl (lv_at hl 2 rfl) ?_
  refine lv_bipush (v := 64) hx hb dX12_frameOf_14 (by decide) ?_
  refine lv_icmp_ge (tgt := 31) hx hb dX12_frameOf_16 (by decide) (fun cc => ?_) (fun cc => ?_)
  · have hw := sv_ift cc hw
    refine lv_lconst (v := 0) hx hb dX12_frameOf_31 (by decide) ?_
    refine lv_lstore_n (lv' := [(3, .long 0), (0, .ref x0), (1, .long x1)]) hx hb dX12_frameOf_32 rfl hl (by decide) rfl (fun ls hl => ?_)
    refine lv_iconst (v := 0) hx hb dX12_frameOf_33 (by decide) ?_
    refine lv_istore (lv' := [(5, .int 0), (3, .long 0), (0, .ref x0), (1, .long x1)]) hx hb dX12_frameOf_34 hl (by decide) rfl (fun ls hl => ?_)
    exact lk_X12_frameOf_36 K sv_fuel hw hR hS (lv_sub hl [2, 3, 1, 0] rfl)
  · have hw := sv_iff cc hw
    refine lv_lload_n hx hb dX12_frameOf_19 rfl (lv_at hl 1 rfl) ?_
    refine lv_ldc2 (v := 31) hx hb hown (hts _ wd_1372) dX12_frameOf_20 ?_
    refine lv_lmul hx hb dX12_frameOf_23 ?_
    refine lv_lstore_n (lv' := [(1, .long (x1 * 31)), (0, .ref x0), (3, .int x3)]) hx hb dX12_frameOf_24 rfl hl (by decide) rfl (fun ls hl => ?_)
    refine lv_iinc (v := x3 + 1) (lv' := [(3, .int (x3 + 1)), (1, .long (x1 * 31)), (0, .ref x0)]) hx hb dX12_frameOf_25 hl (k := 2) rfl rfl (by decide) rfl (fun ls hl => ?_)
    refine lv_goto (tgt := 13) hx hb dX12_frameOf_28 (by decide) ?_
    exact hk13 hw hR hS (lv_sub hl [2, 1, 0] rfl)
theorem lk_X12_frameOf_13 {p : Program} {l : Launch} {e : Env} {s : State} {m : MethodId} {args : Array Value} {below : List Frame} {meth : Method} {c : Code} {G : sv_G} {B : Nat} (K : sv_W p s m args meth c cX12_frameOf RX12 9 (some .long) G B "frameOf") {r : Int64} {hE : sv_H} : ∀ (n : Nat) {x0 : Nat} {x1 : Int64} {x3 : Int32} {h : sv_H}, fn_X12_frameOf_13 n x0 x1 x3 h = some (r, hE) → ∀ {H : Heap} {locs : List Loc} {ls : Array Slot}, sv_R G vwCl sv_ft B h H → va_S (fun q => B ≤ q) s.heap H locs → lv_has ls 9 [(0, .ref x0), (1, .long x1), (3, .int x3)] → W p l e rm_X12_frameOf s m args below meth c H locs 0 0 (sv_Z below s args G B (some (.long r)) hE) (F0 m 13 ls []) := by
  intro n
  induction n with
  | zero => intro x0 x1 x3 h hw; cases (show (none : Option (Int64 × sv_H)) = some (r, hE) from hw)
  | succ n ih => intro x0 x1 x3 h hw H locs ls hR hS hl; exact lk_X12_frameOf_13b K (fun hw => ih hw) hw hR hS hl
set_option maxHeartbeats 4000000 in
set_option maxRecDepth 100000 in
theorem lk_X12_frameOf_0 {p : Program} {l : Launch} {e : Env} {s : State} {m : MethodId} {args : Array Value} {below : List Frame} {meth : Method} {c : Code} {G : sv_G} {B : Nat} (K : sv_W p s m args meth c cX12_frameOf RX12 9 (some .long) G B "frameOf") {r : Int64} {hE : sv_H} {x0 : Nat} {h : sv_H} (hw : fn_X12_frameOf x0 h = some (r, hE)) {H : Heap} {locs : List Loc} {ls : Array Slot} (hR : sv_R G vwCl sv_ft B h H) (hS : va_S (fun q => B ≤ q) s.heap H locs) (hl : lv_has ls 9 [(0, .ref x0)]) : W p l e rm_X12_frameOf s m args below meth c H locs 0 0 (sv_Z below s args G B (some (.long r)) hE) (F0 m 0 ls []) := by
  obtain ⟨hx, hb, hml, hown, hts, hC, hlk, hr, hBs, hni⟩ := id K
  unfold fn_X12_frameOf at hw
  have hw := (sv_go hw).2
  refine lv_aload_n hx hb dX12_frameOf_0 rfl (lv_at hl 0 rfl) ?_
  obtain ⟨r1, h2, hv1, hw⟩ := sv_b_some hw
  refine sv_call (va_runV (As := []) (rest := []) ⟨hx, hb, hml, hown, hts⟩ (mt_X12_hasMap l G B hv1) (cwV 0 hts (sv_gV wd_1039 wd_1041 wd_27 wd_131 wd_1042) rfl rfl rfl (by decide +kernel) ⟨Nat.le_of_ble_eq_true rfl, Nat.le_of_ble_eq_true rfl⟩) ⟨sv_blind, sv_recv hC.1 hR (ci := 12) (sv_go hv1).1 (by decide) rfl, fun U hU hW => sv_pre hC hR hS hBs hU hW⟩ rfl rfl hl.1 rfl (lv_room (Nat.le_of_ble_eq_true rfl)) dX12_frameOf_1 ⟨Nat.zero_le _, Nat.zero_le _⟩) hS (fun H locs hR hS => ?_)
  refine lv_if_ne (tgt := 9) hx hb dX12_frameOf_4 (by decide) (fun cc => ?_) (fun cc => ?_)
  · have hw := sv_iff cc hw
    refine lv_lconst (v := 1) hx hb dX12_frameOf_9 (by decide) ?_
    refine lv_lstore_n (lv' := [(1, .long 1), (0, .ref x0)]) hx hb dX12_frameOf_10 rfl hl (by decide) rfl (fun ls hl => ?_)
    refine lv_iconst (v := 0) hx hb dX12_frameOf_11 (by decide) ?_
    refine lv_istore_n (lv' := [(3, .int 0), (1, .long 1), (0, .ref x0)]) hx hb dX12_frameOf_12 rfl hl (by decide) rfl (fun ls hl => ?_)
    exact lk_X12_frameOf_13 K sv_fuel hw hR hS (lv_sub hl [2, 1, 0] rfl)
  · have hw := sv_ift cc hw
    refine lv_lconst (v := 0) hx hb dX12_frameOf_7 (by decide) ?_
    obtain ⟨rfl, rfl⟩ := sv_ret hw
    exact W.lret hx hb hr (fun t ht hW => ⟨⟨rfl, by rw [ht]; exact hR⟩, hS.F ht⟩) hS.2.2 dX12_frameOf_8
set_option maxHeartbeats 4000000 in
set_option maxRecDepth 100000 in
theorem mt_X12_frameOf (l : Launch) (G : sv_G) (B : Nat) {x0 : Nat} {h : sv_H} {r : Int64} {hE : sv_H} (hw : fn_X12_frameOf x0 h = some (r, hE)) : Met l yX12_frameOf (.code yX12_frameOf cX12_frameOf 9 (some .long) :: sv_tb) rm_X12_frameOf (sv_Pc G B [.ref x0] h) (sv_Q G B (some (.long r)) hE) 0 0 (fun q => B ≤ q) := by
  refine Met.ofW (cc := cX12_frameOf) (maxL := 9) (ret := (some .long)) (by decide +kernel) rfl ?_
  intro p e s m args below meth c s₁ Bd hml hv
  obtain ⟨rfl, hR, hC, hB⟩ := hv
  have hl := lv_entry ([.ref x0]) (n := 9) (Nat.le_of_ble_eq_true rfl)
  rw [lg_entry_eq]
  generalize (lg_sl ([.ref x0]) ++ List.replicate (9 - (lg_sl ([.ref x0])).length) Slot.unset).toArray = ls at hl ⊢
  have hl : lv_has ls 9 [(0, .ref x0)] := hl
  exact lk_X12_frameOf_0 ⟨Bd.exec, Bd.bytes, hml, findClass_of_methodNamed Bd.named, fun w h => atoms_spec (ws := .code yX12_frameOf cX12_frameOf 9 (some .long) :: sv_tb) Bd.pre w (List.mem_cons_of_mem _ h), hC, Bd.notSynchronized, Bd.returns, hB, (name_of_methodNamed Bd.named Bd.method).1⟩ hw hR va_S.rf hl

