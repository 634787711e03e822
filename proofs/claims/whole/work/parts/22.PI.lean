theorem d_PI_readClue_0 : decode b_PI_readClue 0 = .ok (.iconst 0, 1) := by decide +kernel
theorem d_PI_readClue_1 : decode b_PI_readClue 1 = .ok (.istore_n 1, 1) := by decide +kernel
theorem d_PI_readClue_2 : decode b_PI_readClue 2 = .ok (.iconst 0, 1) := by decide +kernel
theorem d_PI_readClue_3 : decode b_PI_readClue 3 = .ok (.istore_n 2, 1) := by decide +kernel
theorem d_PI_readClue_4 : decode b_PI_readClue 4 = .ok (.iconst 0, 1) := by decide +kernel
theorem d_PI_readClue_5 : decode b_PI_readClue 5 = .ok (.istore_n 3, 1) := by decide +kernel
theorem d_PI_readClue_6 : decode b_PI_readClue 6 = .ok (.iload_n 3, 1) := by decide +kernel
theorem d_PI_readClue_7 : decode b_PI_readClue 7 = .ok (.iconst 5, 1) := by decide +kernel
theorem d_PI_readClue_8 : decode b_PI_readClue 8 = .ok (.if_icmp .gt 37, 3) := by decide +kernel
theorem d_PI_readClue_11 : decode b_PI_readClue 11 = .ok (.iload_n 0, 1) := by decide +kernel
theorem d_PI_readClue_12 : decode b_PI_readClue 12 = .ok (.iload_n 3, 1) := by decide +kernel
theorem d_PI_readClue_13 : decode b_PI_readClue 13 = .ok (.ishr, 1) := by decide +kernel
theorem d_PI_readClue_14 : decode b_PI_readClue 14 = .ok (.iconst 1, 1) := by decide +kernel
theorem d_PI_readClue_15 : decode b_PI_readClue 15 = .ok (.iand, 1) := by decide +kernel
theorem d_PI_readClue_16 : decode b_PI_readClue 16 = .ok (.iconst 1, 1) := by decide +kernel
theorem d_PI_readClue_17 : decode b_PI_readClue 17 = .ok (.if_icmp .ne 9, 3) := by decide +kernel
theorem d_PI_readClue_20 : decode b_PI_readClue 20 = .ok (.iinc 2 1, 3) := by decide +kernel
theorem d_PI_readClue_23 : decode b_PI_readClue 23 = .ok (.goto 16, 3) := by decide +kernel
theorem d_PI_readClue_26 : decode b_PI_readClue 26 = .ok (.iload_n 2, 1) := by decide +kernel
theorem d_PI_readClue_27 : decode b_PI_readClue 27 = .ok (.ifCond .le 12, 3) := by decide +kernel
theorem d_PI_readClue_30 : decode b_PI_readClue 30 = .ok (.bipush 10, 2) := by decide +kernel
theorem d_PI_readClue_32 : decode b_PI_readClue 32 = .ok (.iload_n 1, 1) := by decide +kernel
theorem d_PI_readClue_33 : decode b_PI_readClue 33 = .ok (.imul, 1) := by decide +kernel
theorem d_PI_readClue_34 : decode b_PI_readClue 34 = .ok (.iload_n 2, 1) := by decide +kernel
theorem d_PI_readClue_35 : decode b_PI_readClue 35 = .ok (.iadd, 1) := by decide +kernel
theorem d_PI_readClue_36 : decode b_PI_readClue 36 = .ok (.istore_n 1, 1) := by decide +kernel
theorem d_PI_readClue_37 : decode b_PI_readClue 37 = .ok (.iconst 0, 1) := by decide +kernel
theorem d_PI_readClue_38 : decode b_PI_readClue 38 = .ok (.istore_n 2, 1) := by decide +kernel
theorem d_PI_readClue_39 : decode b_PI_readClue 39 = .ok (.iinc 3 1, 3) := by decide +kernel
theorem d_PI_readClue_42 : decode b_PI_readClue 42 = .ok (.goto (-36), 3) := by decide +kernel
theorem d_PI_readClue_45 : decode b_PI_readClue 45 = .ok (.iload_n 1, 1) := by decide +kernel
theorem d_PI_readClue_46 : decode b_PI_readClue 46 = .ok (.ireturn, 1) := by decide +kernel
theorem d_PI_makeNew_0 : decode b_PI_makeNew 0 = .ok (.iconst 0, 1) := by decide +kernel
theorem d_PI_makeNew_1 : decode b_PI_makeNew 1 = .ok (.istore_n 1, 1) := by decide +kernel
theorem d_PI_makeNew_2 : decode b_PI_makeNew 2 = .ok (.iload_n 1, 1) := by decide +kernel
theorem d_PI_makeNew_3 : decode b_PI_makeNew 3 = .ok (.bipush 10, 2) := by decide +kernel
theorem d_PI_makeNew_5 : decode b_PI_makeNew 5 = .ok (.if_icmp .ge 16, 3) := by decide +kernel
theorem d_PI_makeNew_8 : decode b_PI_makeNew 8 = .ok (.aload_n 0, 1) := by decide +kernel
theorem d_PI_makeNew_9 : decode b_PI_makeNew 9 = .ok (.getfield 9, 3) := by decide +kernel
theorem d_PI_makeNew_12 : decode b_PI_makeNew 12 = .ok (.iload_n 1, 1) := by decide +kernel
theorem d_PI_makeNew_13 : decode b_PI_makeNew 13 = .ok (.iconst 0, 1) := by decide +kernel
theorem d_PI_makeNew_14 : decode b_PI_makeNew 14 = .ok (.iastore, 1) := by decide +kernel
theorem d_PI_makeNew_15 : decode b_PI_makeNew 15 = .ok (.iinc 1 1, 3) := by decide +kernel
theorem d_PI_makeNew_18 : decode b_PI_makeNew 18 = .ok (.goto (-16), 3) := by decide +kernel
theorem d_PI_makeNew_21 : decode b_PI_makeNew 21 = .ok (.return_, 1) := by decide +kernel
theorem d_PI_addFixedUnits_0 : decode b_PI_addFixedUnits 0 = .ok (.return_, 1) := by decide +kernel
theorem d_PI_isClue_0 : decode b_PI_isClue 0 = .ok (.iconst 0, 1) := by decide +kernel
theorem d_PI_isClue_1 : decode b_PI_isClue 1 = .ok (.istore_n 2, 1) := by decide +kernel
theorem d_PI_isClue_2 : decode b_PI_isClue 2 = .ok (.iload_n 2, 1) := by decide +kernel
theorem d_PI_isClue_3 : decode b_PI_isClue 3 = .ok (.bipush 32, 2) := by decide +kernel
theorem d_PI_isClue_5 : decode b_PI_isClue 5 = .ok (.if_icmp .ge 21, 3) := by decide +kernel
theorem d_PI_isClue_8 : decode b_PI_isClue 8 = .ok (.aload_n 0, 1) := by decide +kernel
theorem d_PI_isClue_9 : decode b_PI_isClue 9 = .ok (.getfield 13, 3) := by decide +kernel
theorem d_PI_isClue_12 : decode b_PI_isClue 12 = .ok (.iload_n 2, 1) := by decide +kernel
theorem d_PI_isClue_13 : decode b_PI_isClue 13 = .ok (.iaload, 1) := by decide +kernel
theorem d_PI_isClue_14 : decode b_PI_isClue 14 = .ok (.iload_n 1, 1) := by decide +kernel
theorem d_PI_isClue_15 : decode b_PI_isClue 15 = .ok (.if_icmp .ne 5, 3) := by decide +kernel
theorem d_PI_isClue_18 : decode b_PI_isClue 18 = .ok (.iconst 1, 1) := by decide +kernel
theorem d_PI_isClue_19 : decode b_PI_isClue 19 = .ok (.ireturn, 1) := by decide +kernel
theorem d_PI_isClue_20 : decode b_PI_isClue 20 = .ok (.iinc 2 1, 3) := by decide +kernel
theorem d_PI_isClue_23 : decode b_PI_isClue 23 = .ok (.goto (-21), 3) := by decide +kernel
theorem d_PI_isClue_26 : decode b_PI_isClue 26 = .ok (.iconst 0, 1) := by decide +kernel
theorem d_PI_isClue_27 : decode b_PI_isClue 27 = .ok (.ireturn, 1) := by decide +kernel
theorem d_PI_wayOf_0 : decode b_PI_wayOf 0 = .ok (.lconst 0, 1) := by decide +kernel
theorem d_PI_wayOf_1 : decode b_PI_wayOf 1 = .ok (.lstore_n 3, 1) := by decide +kernel
theorem d_PI_wayOf_2 : decode b_PI_wayOf 2 = .ok (.iconst 0, 1) := by decide +kernel
theorem d_PI_wayOf_3 : decode b_PI_wayOf 3 = .ok (.istore 5, 2) := by decide +kernel
theorem d_PI_wayOf_5 : decode b_PI_wayOf 5 = .ok (.iload 5, 2) := by decide +kernel
theorem d_PI_wayOf_7 : decode b_PI_wayOf 7 = .ok (.iconst 5, 1) := by decide +kernel
theorem d_PI_wayOf_8 : decode b_PI_wayOf 8 = .ok (.if_icmp .ge 48, 3) := by decide +kernel
theorem d_PI_wayOf_11 : decode b_PI_wayOf 11 = .ok (.iload_n 1, 1) := by decide +kernel
theorem d_PI_wayOf_12 : decode b_PI_wayOf 12 = .ok (.iconst 5, 1) := by decide +kernel
theorem d_PI_wayOf_13 : decode b_PI_wayOf 13 = .ok (.if_icmp .ge 12, 3) := by decide +kernel
theorem d_PI_wayOf_16 : decode b_PI_wayOf 16 = .ok (.iload_n 1, 1) := by decide +kernel
theorem d_PI_wayOf_17 : decode b_PI_wayOf 17 = .ok (.iconst 5, 1) := by decide +kernel
theorem d_PI_wayOf_18 : decode b_PI_wayOf 18 = .ok (.imul, 1) := by decide +kernel
theorem d_PI_wayOf_19 : decode b_PI_wayOf 19 = .ok (.iload 5, 2) := by decide +kernel
theorem d_PI_wayOf_21 : decode b_PI_wayOf 21 = .ok (.iadd, 1) := by decide +kernel
theorem d_PI_wayOf_22 : decode b_PI_wayOf 22 = .ok (.goto 11, 3) := by decide +kernel
theorem d_PI_wayOf_25 : decode b_PI_wayOf 25 = .ok (.iload 5, 2) := by decide +kernel
theorem d_PI_wayOf_27 : decode b_PI_wayOf 27 = .ok (.iconst 5, 1) := by decide +kernel
theorem d_PI_wayOf_28 : decode b_PI_wayOf 28 = .ok (.imul, 1) := by decide +kernel
theorem d_PI_wayOf_29 : decode b_PI_wayOf 29 = .ok (.iload_n 1, 1) := by decide +kernel
theorem d_PI_wayOf_30 : decode b_PI_wayOf 30 = .ok (.iadd, 1) := by decide +kernel
theorem d_PI_wayOf_31 : decode b_PI_wayOf 31 = .ok (.iconst 5, 1) := by decide +kernel
theorem d_PI_wayOf_32 : decode b_PI_wayOf 32 = .ok (.isub, 1) := by decide +kernel
theorem d_PI_wayOf_33 : decode b_PI_wayOf 33 = .ok (.istore 6, 2) := by decide +kernel
theorem d_PI_wayOf_35 : decode b_PI_wayOf 35 = .ok (.lload_n 3, 1) := by decide +kernel
theorem d_PI_wayOf_36 : decode b_PI_wayOf 36 = .ok (.aload_n 0, 1) := by decide +kernel
theorem d_PI_wayOf_37 : decode b_PI_wayOf 37 = .ok (.iload 6, 2) := by decide +kernel
theorem d_PI_wayOf_39 : decode b_PI_wayOf 39 = .ok (.iload_n 2, 1) := by decide +kernel
theorem d_PI_wayOf_40 : decode b_PI_wayOf 40 = .ok (.iload 5, 2) := by decide +kernel
theorem d_PI_wayOf_42 : decode b_PI_wayOf 42 = .ok (.ishr, 1) := by decide +kernel
theorem d_PI_wayOf_43 : decode b_PI_wayOf 43 = .ok (.iconst 1, 1) := by decide +kernel
theorem d_PI_wayOf_44 : decode b_PI_wayOf 44 = .ok (.iand, 1) := by decide +kernel
theorem d_PI_wayOf_45 : decode b_PI_wayOf 45 = .ok (.invokevirtual 43, 3) := by decide +kernel
theorem d_PI_wayOf_48 : decode b_PI_wayOf 48 = .ok (.lor, 1) := by decide +kernel
theorem d_PI_wayOf_49 : decode b_PI_wayOf 49 = .ok (.lstore_n 3, 1) := by decide +kernel
theorem d_PI_wayOf_50 : decode b_PI_wayOf 50 = .ok (.iinc 5 1, 3) := by decide +kernel
theorem d_PI_wayOf_53 : decode b_PI_wayOf 53 = .ok (.goto (-48), 3) := by decide +kernel
theorem d_PI_wayOf_56 : decode b_PI_wayOf 56 = .ok (.lload_n 3, 1) := by decide +kernel
theorem d_PI_wayOf_57 : decode b_PI_wayOf 57 = .ok (.lreturn, 1) := by decide +kernel
theorem d_PI_addOtherUnits_0 : decode b_PI_addOtherUnits 0 = .ok (.iconst 0, 1) := by decide +kernel
theorem d_PI_addOtherUnits_1 : decode b_PI_addOtherUnits 1 = .ok (.istore_n 2, 1) := by decide +kernel
theorem d_PI_addOtherUnits_2 : decode b_PI_addOtherUnits 2 = .ok (.iload_n 2, 1) := by decide +kernel
theorem d_PI_addOtherUnits_3 : decode b_PI_addOtherUnits 3 = .ok (.bipush 10, 2) := by decide +kernel
theorem d_PI_addOtherUnits_5 : decode b_PI_addOtherUnits 5 = .ok (.if_icmp .ge 76, 3) := by decide +kernel
theorem d_PI_addOtherUnits_8 : decode b_PI_addOtherUnits 8 = .ok (.aload_n 1, 1) := by decide +kernel
theorem d_PI_addOtherUnits_9 : decode b_PI_addOtherUnits 9 = .ok (.aload_n 0, 1) := by decide +kernel
theorem d_PI_addOtherUnits_10 : decode b_PI_addOtherUnits 10 = .ok (.iload_n 2, 1) := by decide +kernel
theorem d_PI_addOtherUnits_11 : decode b_PI_addOtherUnits 11 = .ok (.iconst 5, 1) := by decide +kernel
theorem d_PI_addOtherUnits_12 : decode b_PI_addOtherUnits 12 = .ok (.if_icmp .ge 11, 3) := by decide +kernel
theorem d_PI_addOtherUnits_15 : decode b_PI_addOtherUnits 15 = .ok (.aload_n 0, 1) := by decide +kernel
theorem d_PI_addOtherUnits_16 : decode b_PI_addOtherUnits 16 = .ok (.iload_n 2, 1) := by decide +kernel
theorem d_PI_addOtherUnits_17 : decode b_PI_addOtherUnits 17 = .ok (.invokevirtual 20, 3) := by decide +kernel
theorem d_PI_addOtherUnits_20 : decode b_PI_addOtherUnits 20 = .ok (.goto 10, 3) := by decide +kernel
theorem d_PI_addOtherUnits_23 : decode b_PI_addOtherUnits 23 = .ok (.aload_n 0, 1) := by decide +kernel
theorem d_PI_addOtherUnits_24 : decode b_PI_addOtherUnits 24 = .ok (.iload_n 2, 1) := by decide +kernel
theorem d_PI_addOtherUnits_25 : decode b_PI_addOtherUnits 25 = .ok (.iconst 5, 1) := by decide +kernel
theorem d_PI_addOtherUnits_26 : decode b_PI_addOtherUnits 26 = .ok (.isub, 1) := by decide +kernel
theorem d_PI_addOtherUnits_27 : decode b_PI_addOtherUnits 27 = .ok (.invokevirtual 23, 3) := by decide +kernel
theorem d_PI_addOtherUnits_30 : decode b_PI_addOtherUnits 30 = .ok (.invokevirtual 26, 3) := by decide +kernel
theorem d_PI_addOtherUnits_33 : decode b_PI_addOtherUnits 33 = .ok (.invokevirtual 30, 3) := by decide +kernel
theorem d_PI_addOtherUnits_36 : decode b_PI_addOtherUnits 36 = .ok (.iconst 0, 1) := by decide +kernel
theorem d_PI_addOtherUnits_37 : decode b_PI_addOtherUnits 37 = .ok (.istore_n 3, 1) := by decide +kernel
theorem d_PI_addOtherUnits_38 : decode b_PI_addOtherUnits 38 = .ok (.iload_n 3, 1) := by decide +kernel
theorem d_PI_addOtherUnits_39 : decode b_PI_addOtherUnits 39 = .ok (.bipush 32, 2) := by decide +kernel
theorem d_PI_addOtherUnits_41 : decode b_PI_addOtherUnits 41 = .ok (.if_icmp .ge 34, 3) := by decide +kernel
theorem d_PI_addOtherUnits_44 : decode b_PI_addOtherUnits 44 = .ok (.aload_n 0, 1) := by decide +kernel
theorem d_PI_addOtherUnits_45 : decode b_PI_addOtherUnits 45 = .ok (.getfield 13, 3) := by decide +kernel
theorem d_PI_addOtherUnits_48 : decode b_PI_addOtherUnits 48 = .ok (.iload_n 3, 1) := by decide +kernel
theorem d_PI_addOtherUnits_49 : decode b_PI_addOtherUnits 49 = .ok (.iaload, 1) := by decide +kernel
theorem d_PI_addOtherUnits_50 : decode b_PI_addOtherUnits 50 = .ok (.aload_n 0, 1) := by decide +kernel
theorem d_PI_addOtherUnits_51 : decode b_PI_addOtherUnits 51 = .ok (.getfield 9, 3) := by decide +kernel
theorem d_PI_addOtherUnits_54 : decode b_PI_addOtherUnits 54 = .ok (.iload_n 2, 1) := by decide +kernel
theorem d_PI_addOtherUnits_55 : decode b_PI_addOtherUnits 55 = .ok (.iaload, 1) := by decide +kernel
theorem d_PI_addOtherUnits_56 : decode b_PI_addOtherUnits 56 = .ok (.if_icmp .ne 13, 3) := by decide +kernel
theorem d_PI_addOtherUnits_59 : decode b_PI_addOtherUnits 59 = .ok (.aload_n 1, 1) := by decide +kernel
theorem d_PI_addOtherUnits_60 : decode b_PI_addOtherUnits 60 = .ok (.aload_n 0, 1) := by decide +kernel
theorem d_PI_addOtherUnits_61 : decode b_PI_addOtherUnits 61 = .ok (.iload_n 2, 1) := by decide +kernel
theorem d_PI_addOtherUnits_62 : decode b_PI_addOtherUnits 62 = .ok (.iload_n 3, 1) := by decide +kernel
theorem d_PI_addOtherUnits_63 : decode b_PI_addOtherUnits 63 = .ok (.invokevirtual 36, 3) := by decide +kernel
theorem d_PI_addOtherUnits_66 : decode b_PI_addOtherUnits 66 = .ok (.invokevirtual 40, 3) := by decide +kernel
theorem d_PI_addOtherUnits_69 : decode b_PI_addOtherUnits 69 = .ok (.iinc 3 1, 3) := by decide +kernel
theorem d_PI_addOtherUnits_72 : decode b_PI_addOtherUnits 72 = .ok (.goto (-34), 3) := by decide +kernel
theorem d_PI_addOtherUnits_75 : decode b_PI_addOtherUnits 75 = .ok (.iinc 2 1, 3) := by decide +kernel
theorem d_PI_addOtherUnits_78 : decode b_PI_addOtherUnits 78 = .ok (.goto (-76), 3) := by decide +kernel
theorem d_PI_addOtherUnits_81 : decode b_PI_addOtherUnits 81 = .ok (.return_, 1) := by decide +kernel
set_option maxHeartbeats 4000000 in
set_option maxRecDepth 100000 in
theorem ct_PI_readClue (l : Launch) (D : va_G) (tys : List (ClassId × FieldType)) (w0 : va_W) (N : Nat)  (u0 : Int32) (out : Int32) (h : mi_PI_readClue N u0 = some out) : fw_C l y_PI_readClue (.code y_PI_readClue b_PI_readClue 4 (some .int) :: Gw) (fr 0 0) D vwCl tys [.int u0] (w0) (some (.int out)) (w0) := by
  refine fw_of (by decide) (Nat.le_of_ble_eq_true rfl) ?_
  intro p e s m args below meth c ls A R Q hR hQ S hr hlk hX hA hl hw
  have hK := hX.1
  have hx := S.1
  have hb := S.2.1
  have hown := S.2.2.2.1
  have hg := S.2.2.2.2
  have hl : lv_has ls 4 [(0, .int u0)] := hl
  unfold mi_PI_readClue at h
  refine lv_iconst (v := 0) hx hb d_PI_readClue_0 (by decide) ?_
  refine lv_istore_n (lv' := [(1, .int (0 : Int32)), (0, .int u0)]) hx hb d_PI_readClue_1 rfl hl (by decide) rfl (fun ls hl => ?_)
  refine lv_iconst (v := 0) hx hb d_PI_readClue_2 (by decide) ?_
  refine lv_istore_n (lv' := [(2, .int (0 : Int32)), (1, .int (0 : Int32)), (0, .int u0)]) hx hb d_PI_readClue_3 rfl hl (by decide) rfl (fun ls hl => ?_)
  refine lv_iconst (v := 0) hx hb d_PI_readClue_4 (by decide) ?_
  refine lv_istore_n (lv' := [(3, .int (0 : Int32)), (2, .int (0 : Int32)), (1, .int (0 : Int32)), (0, .int u0)]) hx hb d_PI_readClue_5 rfl hl (by decide) rfl (fun ls hl => ?_)
  have X6 : ∀ (y6 : Int32 × Int32 × Int32), mr_PI_readClue_6 y6 = some out → ∀ (ls : Array Slot) (H : Heap) (locs : List Loc), lv_has ls 4 [(1, .int y6.1)] → fw_H D vwCl A s.heap (w0) H locs → W p l e R s m args below meth c H locs 0 0 Q (F0 m 45 ls []) := by
    intro y6 h ls H locs hl hw
    unfold mr_PI_readClue_6 at h
    refine lv_iload_n hx hb d_PI_readClue_45 rfl (lv_at hl 0 rfl) ?_
    have q := Option.some.inj h
    subst q
    exact fw_iret hQ S hr hlk hX hw d_PI_readClue_46
  have L6 : ∀ (n6 : Nat) (x6 : Int32 × Int32 × Int32) (e6 : Int32 × Int32 × Int32), lp (mb_PI_readClue_6 u0) n6 x6 = some e6 → (mr_PI_readClue_6) e6 = some out → ∀ (ls : Array Slot) (H : Heap) (locs : List Loc), lv_has ls 4 [(0, .int u0), (1, .int x6.1), (2, .int x6.2.1), (3, .int x6.2.2)] → fw_H D vwCl A s.heap (w0) H locs → W p l e R s m args below meth c H locs 0 0 Q (F0 m 6 ls []) := by
    intro n6
    induction n6 with
    | zero => intro x6 e6 h1; exact absurd h1 lp_0
    | succ n6 ih6 =>
      intro x6 e6 h1 hr6 ls H locs hl hw
      rw [lp_s] at h1
      refine ob h1 (fun r6 h hk6 => ?_)
      unfold mb_PI_readClue_6 at h
      refine lv_iload_n hx hb d_PI_readClue_6 rfl (lv_at hl 3 rfl) ?_
      refine lv_iconst (v := 5) hx hb d_PI_readClue_7 (by decide) ?_
      refine lv_icmp_gt (tgt := 45) hx hb d_PI_readClue_8 (by decide) (fun hc => ?_) (fun hc => ?_)
      · have h := oi h hc
        have q := Option.some.inj h
        subst q
        have q := Option.some.inj hk6
        subst q
        exact X6 (x6.1, x6.2.1, x6.2.2) hr6 _ _ _ (lv_sub hl [1] rfl) hw
      · have h := oe h hc
        refine lv_iload_n hx hb d_PI_readClue_11 rfl (lv_at hl 0 rfl) ?_
        refine lv_iload_n hx hb d_PI_readClue_12 rfl (lv_at hl 3 rfl) ?_
        refine lv_ishr hx hb d_PI_readClue_13 ?_
        refine lv_iconst (v := 1) hx hb d_PI_readClue_14 (by decide) ?_
        refine lv_iand hx hb d_PI_readClue_15 ?_
        refine lv_iconst (v := 1) hx hb d_PI_readClue_16 (by decide) ?_
        refine lv_icmp_ne (tgt := 26) hx hb d_PI_readClue_17 (by decide) (fun hc => ?_) (fun hc => ?_)
        · have h := oe h hc
          refine lv_iload_n hx hb d_PI_readClue_26 rfl (lv_at hl 2 rfl) ?_
          refine lv_if_le (tgt := 39) hx hb d_PI_readClue_27 (by decide) (fun hc => ?_) (fun hc => ?_)
          · have h := oi h hc
            refine lv_iinc (k := 3) (v := x6.2.2 + 1) (lv' := [(3, .int (x6.2.2 + 1)), (0, .int u0), (1, .int x6.1), (2, .int x6.2.1)]) hx hb d_PI_readClue_39 hl rfl (by rw [lit1]) (by decide) rfl (fun ls hl => ?_)
            refine lv_goto (tgt := 6) hx hb d_PI_readClue_42 (by decide) ?_
            have q := Option.some.inj h
            subst q
            exact ih6 (x6.1, x6.2.1, x6.2.2 + 1) e6 hk6 hr6 _ _ _ (lv_sub hl [1, 2, 3, 0] rfl) hw
          · have h := oe h hc
            refine lv_bipush (v := 10) hx hb d_PI_readClue_30 (by decide) ?_
            refine lv_iload_n hx hb d_PI_readClue_32 rfl (lv_at hl 1 rfl) ?_
            refine lv_imul hx hb d_PI_readClue_33 ?_
            refine lv_iload_n hx hb d_PI_readClue_34 rfl (lv_at hl 2 rfl) ?_
            refine lv_iadd hx hb d_PI_readClue_35 ?_
            refine lv_istore_n (lv' := [(1, .int (((10 : Int32) * x6.1) + x6.2.1)), (0, .int u0), (2, .int x6.2.1), (3, .int x6.2.2)]) hx hb d_PI_readClue_36 rfl hl (by decide) rfl (fun ls hl => ?_)
            refine lv_iconst (v := 0) hx hb d_PI_readClue_37 (by decide) ?_
            refine lv_istore_n (lv' := [(2, .int (0 : Int32)), (1, .int (((10 : Int32) * x6.1) + x6.2.1)), (0, .int u0), (3, .int x6.2.2)]) hx hb d_PI_readClue_38 rfl hl (by decide) rfl (fun ls hl => ?_)
            refine lv_iinc (k := 3) (v := x6.2.2 + 1) (lv' := [(3, .int (x6.2.2 + 1)), (2, .int (0 : Int32)), (1, .int (((10 : Int32) * x6.1) + x6.2.1)), (0, .int u0)]) hx hb d_PI_readClue_39 hl rfl (by rw [lit1]) (by decide) rfl (fun ls hl => ?_)
            refine lv_goto (tgt := 6) hx hb d_PI_readClue_42 (by decide) ?_
            have q := Option.some.inj h
            subst q
            exact ih6 (((10 : Int32) * x6.1) + x6.2.1, (0 : Int32), x6.2.2 + 1) e6 hk6 hr6 _ _ _ (lv_sub hl [3, 2, 1, 0] rfl) hw
        · have h := oi h hc
          refine lv_iinc (k := 2) (v := x6.2.1 + 1) (lv' := [(2, .int (x6.2.1 + 1)), (0, .int u0), (1, .int x6.1), (3, .int x6.2.2)]) hx hb d_PI_readClue_20 hl rfl (by rw [lit1]) (by decide) rfl (fun ls hl => ?_)
          refine lv_goto (tgt := 39) hx hb d_PI_readClue_23 (by decide) ?_
          refine lv_iinc (k := 3) (v := x6.2.2 + 1) (lv' := [(3, .int (x6.2.2 + 1)), (2, .int (x6.2.1 + 1)), (0, .int u0), (1, .int x6.1)]) hx hb d_PI_readClue_39 hl rfl (by rw [lit1]) (by decide) rfl (fun ls hl => ?_)
          refine lv_goto (tgt := 6) hx hb d_PI_readClue_42 (by decide) ?_
          have q := Option.some.inj h
          subst q
          exact ih6 (x6.1, x6.2.1 + 1, x6.2.2 + 1) e6 hk6 hr6 _ _ _ (lv_sub hl [2, 3, 1, 0] rfl) hw
  refine ob h (fun e6 h1 h2 => ?_)
  exact L6 N ((0 : Int32), (0 : Int32), (0 : Int32)) e6 h1 h2 _ _ _ (lv_sub hl [3, 2, 1, 0] rfl) hw
set_option maxHeartbeats 4000000 in
set_option maxRecDepth 100000 in
theorem ct_PI_makeNew (l : Launch) (D : va_G) (ad : Nat → Nat) (cI cL : ClassId) (N : Nat) (kk : Nat) (kn : Int32) (le : Int64) (ff : Int64) (fo : Int32) (ct : Int32) (fx : Int32) (gv : Nat → Int32) (pg : Nat → Int32) (cu : Nat → Int32) (co : Nat → Int32) (sg : Nat → Int32) (ru : Nat → Int32) (nu : Nat → Int32) (tg : Nat → Int32) (sc : Nat → Int64) (sr : Nat → Int32) (wy : Nat → Int64)  (out : (Nat → Int32)) (h : mi_PI_makeNew N cu = some out) : fw_C l y_PI_makeNew (.code y_PI_makeNew b_PI_makeNew 2 (none) :: Gw) (fr 0 0) D vwCl (tyA cI cL) [.ref (ad 1)] (wC ad cI cL kk kn le ff fo ct fx gv pg cu co sg ru nu tg sc sr wy) none (wC ad cI cL kk kn le ff fo ct fx gv pg out co sg ru nu tg sc sr wy) := by
  refine fw_of (by decide) (Nat.le_of_ble_eq_true rfl) ?_
  intro p e s m args below meth c ls A R Q hR hQ S hr hlk hX hA hl hw
  have hK := hX.1
  have hx := S.1
  have hb := S.2.1
  have hown := S.2.2.2.1
  have hg := S.2.2.2.2
  have hl : lv_has ls 2 [(0, .ref (ad 1))] := hl
  unfold mi_PI_makeNew at h
  refine lv_iconst (v := 0) hx hb d_PI_makeNew_0 (by decide) ?_
  refine lv_istore_n (lv' := [(1, .int (0 : Int32)), (0, .ref (ad 1))]) hx hb d_PI_makeNew_1 rfl hl (by decide) rfl (fun ls hl => ?_)
  have X2 : ∀ (y2 : Int32 × (Nat → Int32)), mr_PI_makeNew_2 y2 = some out → ∀ (ls : Array Slot) (H : Heap) (locs : List Loc), lv_has ls 2 [] → fw_H D vwCl A s.heap (wC ad cI cL kk kn le ff fo ct fx gv pg y2.2 co sg ru nu tg sc sr wy) H locs → W p l e R s m args below meth c H locs 0 0 Q (F0 m 21 ls []) := by
    intro y2 h ls H locs hl hw
    unfold mr_PI_makeNew_2 at h
    have q := Option.some.inj h
    subst q
    exact fw_vret hQ S hr hlk hX hw d_PI_makeNew_21
  have L2 : ∀ (n2 : Nat) (x2 : Int32 × (Nat → Int32)) (e2 : Int32 × (Nat → Int32)), lp (mb_PI_makeNew_2) n2 x2 = some e2 → (mr_PI_makeNew_2) e2 = some out → ∀ (ls : Array Slot) (H : Heap) (locs : List Loc), lv_has ls 2 [(0, .ref (ad 1)), (1, .int x2.1)] → fw_H D vwCl A s.heap (wC ad cI cL kk kn le ff fo ct fx gv pg x2.2 co sg ru nu tg sc sr wy) H locs → W p l e R s m args below meth c H locs 0 0 Q (F0 m 2 ls []) := by
    intro n2
    induction n2 with
    | zero => intro x2 e2 h1; exact absurd h1 lp_0
    | succ n2 ih2 =>
      intro x2 e2 h1 hr2 ls H locs hl hw
      rw [lp_s] at h1
      refine ob h1 (fun r2 h hk2 => ?_)
      unfold mb_PI_makeNew_2 at h
      refine lv_iload_n hx hb d_PI_makeNew_2 rfl (lv_at hl 1 rfl) ?_
      refine lv_bipush (v := 10) hx hb d_PI_makeNew_3 (by decide) ?_
      refine lv_icmp_ge (tgt := 21) hx hb d_PI_makeNew_5 (by decide) (fun hc => ?_) (fun hc => ?_)
      · have h := oi h hc
        have q := Option.some.inj h
        subst q
        have q := Option.some.inj hk2
        subst q
        exact X2 (x2.1, x2.2) hr2 _ _ _ (lv_sub hl [] rfl) hw
      · have h := oe h hc
        refine lv_aload_n hx hb d_PI_makeNew_8 rfl (lv_at hl 0 rfl) ?_
        refine va_get (ci := 1) (v := .ref (ad 8)) (C := R_PI) (T := F_PI) (N := 8) hx hb hg in_PI hown hK hw.1 1 rfl rfl 6 (by decide) (hg _ q_40) (fun _ h9 => h9) rfl d_PI_makeNew_9 ?_
        refine lv_iload_n hx hb d_PI_makeNew_12 rfl (lv_at hl 1 rfl) ?_
        refine lv_iconst (v := 0) hx hb d_PI_makeNew_13 (by decide) ?_
        refine oc h (fun hc1 h => ?_)
        refine va_iast hx hb hK hw.1 hw.2.1 hw.2.2 8 0 rfl rfl hc1 d_PI_makeNew_14 (fun H locs hP hD hS => ?_)
        have hw : fw_H D vwCl A s.heap (wC ad cI cL kk kn le ff fo ct fx gv pg (upd x2.2 x2.1.toNatClampNeg (0 : Int32)) co sg ru nu tg sc sr wy) H locs := ⟨hP, hD, hS⟩
        refine lv_iinc (k := 1) (v := x2.1 + 1) (lv' := [(1, .int (x2.1 + 1)), (0, .ref (ad 1))]) hx hb d_PI_makeNew_15 hl rfl (by rw [lit1]) (by decide) rfl (fun ls hl => ?_)
        refine lv_goto (tgt := 2) hx hb d_PI_makeNew_18 (by decide) ?_
        have q := Option.some.inj h
        subst q
        exact ih2 (x2.1 + 1, upd x2.2 x2.1.toNatClampNeg (0 : Int32)) e2 hk2 hr2 _ _ _ (lv_sub hl [1, 0] rfl) hw
  refine ob h (fun e2 h1 h2 => ?_)
  exact L2 N ((0 : Int32), cu) e2 h1 h2 _ _ _ (lv_sub hl [1, 0] rfl) hw
set_option maxHeartbeats 4000000 in
set_option maxRecDepth 100000 in
theorem ct_PI_addFixedUnits (l : Launch) (D : va_G) (ad : Nat → Nat) (cI cL : ClassId) (N : Nat) (kk : Nat) (kn : Int32) (le : Int64) (ff : Int64) (fo : Int32) (ct : Int32) (fx : Int32) (gv : Nat → Int32) (pg : Nat → Int32) (cu : Nat → Int32) (co : Nat → Int32) (sg : Nat → Int32) (ru : Nat → Int32) (nu : Nat → Int32) (tg : Nat → Int32) (sc : Nat → Int64) (sr : Nat → Int32) (wy : Nat → Int64)  (out : Unit) (h : mi_PI_addFixedUnits N = some out) : fw_C l y_PI_addFixedUnits (.code y_PI_addFixedUnits b_PI_addFixedUnits 2 (none) :: Gw) (fr 0 0) D vwCl (tyA cI cL) [.ref (ad 1), .ref (ad 5)] (wC ad cI cL kk kn le ff fo ct fx gv pg cu co sg ru nu tg sc sr wy) none (wC ad cI cL kk kn le ff fo ct fx gv pg cu co sg ru nu tg sc sr wy) := by
  refine fw_of (by decide) (Nat.le_of_ble_eq_true rfl) ?_
  intro p e s m args below meth c ls A R Q hR hQ S hr hlk hX hA hl hw
  have hK := hX.1
  have hx := S.1
  have hb := S.2.1
  have hown := S.2.2.2.1
  have hg := S.2.2.2.2
  have hl : lv_has ls 2 [(0, .ref (ad 1)), (1, .ref (ad 5))] := hl
  unfold mi_PI_addFixedUnits at h
  have q := Option.some.inj h
  subst q
  exact fw_vret hQ S hr hlk hX hw d_PI_addFixedUnits_0
set_option maxHeartbeats 4000000 in
set_option maxRecDepth 100000 in
theorem ct_PI_isClue (l : Launch) (D : va_G) (ad : Nat → Nat) (cI cL : ClassId) (N : Nat) (kk : Nat) (kn : Int32) (le : Int64) (ff : Int64) (fo : Int32) (ct : Int32) (fx : Int32) (gv : Nat → Int32) (pg : Nat → Int32) (cu : Nat → Int32) (co : Nat → Int32) (sg : Nat → Int32) (ru : Nat → Int32) (nu : Nat → Int32) (tg : Nat → Int32) (sc : Nat → Int64) (sr : Nat → Int32) (wy : Nat → Int64) (u1 : Int32) (out : Int32) (h : mi_PI_isClue N co u1 = some out) : fw_C l y_PI_isClue (.code y_PI_isClue b_PI_isClue 3 (some .boolean) :: Gw) (fr 0 0) D vwCl (tyA cI cL) [.ref (ad 1), .int u1] (wC ad cI cL kk kn le ff fo ct fx gv pg cu co sg ru nu tg sc sr wy) (some (.int out)) (wC ad cI cL kk kn le ff fo ct fx gv pg cu co sg ru nu tg sc sr wy) := by
  refine fw_of (by decide) (Nat.le_of_ble_eq_true rfl) ?_
  intro p e s m args below meth c ls A R Q hR hQ S hr hlk hX hA hl hw
  have hK := hX.1
  have hx := S.1
  have hb := S.2.1
  have hown := S.2.2.2.1
  have hg := S.2.2.2.2
  have hl : lv_has ls 3 [(0, .ref (ad 1)), (1, .int u1)] := hl
  unfold mi_PI_isClue at h
  refine lv_iconst (v := 0) hx hb d_PI_isClue_0 (by decide) ?_
  refine lv_istore_n (lv' := [(2, .int (0 : Int32)), (0, .ref (ad 1)), (1, .int u1)]) hx hb d_PI_isClue_1 rfl hl (by decide) rfl (fun ls hl => ?_)
  have X2 : ∀ (y2 : Int32), mr_PI_isClue_2 y2 = some out → ∀ (ls : Array Slot) (H : Heap) (locs : List Loc), lv_has ls 3 [] → fw_H D vwCl A s.heap (wC ad cI cL kk kn le ff fo ct fx gv pg cu co sg ru nu tg sc sr wy) H locs → W p l e R s m args below meth c H locs 0 0 Q (F0 m 26 ls []) := by
    intro y2 h ls H locs hl hw
    unfold mr_PI_isClue_2 at h
    refine lv_iconst (v := 0) hx hb d_PI_isClue_26 (by decide) ?_
    have q := Option.some.inj h
    subst q
    exact fw_zret hQ S hr rfl hlk hX hw d_PI_isClue_27
  have L2 : ∀ (n2 : Nat) (x2 : Int32) (e2 : (Int32) ⊕ (Int32)), lp (mb_PI_isClue_2 co u1) n2 x2 = some e2 → (Sum.elim (mr_PI_isClue_2) (fun z => some z)) e2 = some out → ∀ (ls : Array Slot) (H : Heap) (locs : List Loc), lv_has ls 3 [(0, .ref (ad 1)), (1, .int u1), (2, .int x2)] → fw_H D vwCl A s.heap (wC ad cI cL kk kn le ff fo ct fx gv pg cu co sg ru nu tg sc sr wy) H locs → W p l e R s m args below meth c H locs 0 0 Q (F0 m 2 ls []) := by
    intro n2
    induction n2 with
    | zero => intro x2 e2 h1; exact absurd h1 lp_0
    | succ n2 ih2 =>
      intro x2 e2 h1 hr2 ls H locs hl hw
      rw [lp_s] at h1
      refine ob h1 (fun r2 h hk2 => ?_)
      unfold mb_PI_isClue_2 at h
      refine lv_iload_n hx hb d_PI_isClue_2 rfl (lv_at hl 2 rfl) ?_
      refine lv_bipush (v := 32) hx hb d_PI_isClue_3 (by decide) ?_
      refine lv_icmp_ge (tgt := 26) hx hb d_PI_isClue_5 (by decide) (fun hc => ?_) (fun hc => ?_)
      · have h := oi h hc
        have q := Option.some.inj h
        subst q
        have q := Option.some.inj hk2
        subst q
        exact X2 x2 hr2 _ _ _ (lv_sub hl [] rfl) hw
      · have h := oe h hc
        refine lv_aload_n hx hb d_PI_isClue_8 rfl (lv_at hl 0 rfl) ?_
        refine va_get (ci := 1) (v := .ref (ad 9)) (C := R_PI) (T := F_PI) (N := 8) hx hb hg in_PI hown hK hw.1 1 rfl rfl 7 (by decide) (hg _ q_42) (fun _ h9 => h9) rfl d_PI_isClue_9 ?_
        refine lv_iload_n hx hb d_PI_isClue_12 rfl (lv_at hl 2 rfl) ?_
        refine oc h (fun hc1 h => ?_)
        refine va_iald hx hb hK hw.1 9 0 rfl rfl hc1 d_PI_isClue_13 ?_
        refine lv_iload_n hx hb d_PI_isClue_14 rfl (lv_at hl 1 rfl) ?_
        refine lv_icmp_ne (tgt := 20) hx hb d_PI_isClue_15 (by decide) (fun hc => ?_) (fun hc => ?_)
        · have h := oe h hc
          refine lv_iinc (k := 2) (v := x2 + 1) (lv' := [(2, .int (x2 + 1)), (0, .ref (ad 1)), (1, .int u1)]) hx hb d_PI_isClue_20 hl rfl (by rw [lit1]) (by decide) rfl (fun ls hl => ?_)
          refine lv_goto (tgt := 2) hx hb d_PI_isClue_23 (by decide) ?_
          have q := Option.some.inj h
          subst q
          exact ih2 (x2 + 1) e2 hk2 hr2 _ _ _ (lv_sub hl [1, 2, 0] rfl) hw
        · have h := oi h hc
          refine lv_iconst (v := 1) hx hb d_PI_isClue_18 (by decide) ?_
          have q := Option.some.inj h
          subst q
          have q := Option.some.inj hk2
          subst q
          have q := Option.some.inj hr2
          subst q
          exact fw_zret hQ S hr rfl hlk hX hw d_PI_isClue_19
  refine ob h (fun e2 h1 h2 => ?_)
  exact L2 N (0 : Int32) e2 h1 h2 _ _ _ (lv_sub hl [1, 2, 0] rfl) hw
set_option maxHeartbeats 4000000 in
set_option maxRecDepth 100000 in
theorem ct_PI_wayOf (l : Launch) (D : va_G) (ad : Nat → Nat) (cI cL : ClassId) (N : Nat) (kk : Nat) (kn : Int32) (le : Int64) (ff : Int64) (fo : Int32) (ct : Int32) (fx : Int32) (gv : Nat → Int32) (pg : Nat → Int32) (cu : Nat → Int32) (co : Nat → Int32) (sg : Nat → Int32) (ru : Nat → Int32) (nu : Nat → Int32) (tg : Nat → Int32) (sc : Nat → Int64) (sr : Nat → Int32) (wy : Nat → Int64) (u1 : Int32) (u2 : Int32) (out : Int64) (h : mi_PI_wayOf N u1 u2 = some out) : fw_C l y_PI_wayOf (.code y_PI_wayOf b_PI_wayOf 7 (some .long) :: Gw) (fr 1 22) D vwCl (tyA cI cL) [.ref (ad 1), .int u1, .int u2] (wC ad cI cL kk kn le ff fo ct fx gv pg cu co sg ru nu tg sc sr wy) (some (.long out)) (wC ad cI cL kk kn le ff fo ct fx gv pg cu co sg ru nu tg sc sr wy) := by
  refine fw_of (by decide) (Nat.le_of_ble_eq_true rfl) ?_
  intro p e s m args below meth c ls A R Q hR hQ S hr hlk hX hA hl hw
  have hK := hX.1
  have hx := S.1
  have hb := S.2.1
  have hown := S.2.2.2.1
  have hg := S.2.2.2.2
  have hl : lv_has ls 7 [(0, .ref (ad 1)), (1, .int u1), (2, .int u2)] := hl
  unfold mi_PI_wayOf at h
  refine lv_lconst (v := 0) hx hb d_PI_wayOf_0 (by decide) ?_
  refine lv_lstore_n (lv' := [(3, .long (0 : Int64)), (0, .ref (ad 1)), (1, .int u1), (2, .int u2)]) hx hb d_PI_wayOf_1 rfl hl (by decide) rfl (fun ls hl => ?_)
  refine lv_iconst (v := 0) hx hb d_PI_wayOf_2 (by decide) ?_
  refine lv_istore (lv' := [(5, .int (0 : Int32)), (3, .long (0 : Int64)), (0, .ref (ad 1)), (1, .int u1), (2, .int u2)]) hx hb d_PI_wayOf_3 hl (by decide) rfl (fun ls hl => ?_)
  have X5 : ∀ (y5 : Int64 × Int32), mr_PI_wayOf_5 y5 = some out → ∀ (ls : Array Slot) (H : Heap) (locs : List Loc), lv_has ls 7 [(3, .long y5.1)] → fw_H D vwCl A s.heap (wC ad cI cL kk kn le ff fo ct fx gv pg cu co sg ru nu tg sc sr wy) H locs → W p l e R s m args below meth c H locs 0 0 Q (F0 m 56 ls []) := by
    intro y5 h ls H locs hl hw
    unfold mr_PI_wayOf_5 at h
    refine lv_lload_n hx hb d_PI_wayOf_56 rfl (lv_at hl 0 rfl) ?_
    have q := Option.some.inj h
    subst q
    exact fw_lret hQ S hr hlk hX hw d_PI_wayOf_57
  have L5 : ∀ (n5 : Nat) (x5 : Int64 × Int32) (e5 : Int64 × Int32), lp (mb_PI_wayOf_5 N u1 u2) n5 x5 = some e5 → (mr_PI_wayOf_5) e5 = some out → ∀ (ls : Array Slot) (H : Heap) (locs : List Loc), lv_has ls 7 [(0, .ref (ad 1)), (1, .int u1), (2, .int u2), (3, .long x5.1), (5, .int x5.2)] → fw_H D vwCl A s.heap (wC ad cI cL kk kn le ff fo ct fx gv pg cu co sg ru nu tg sc sr wy) H locs → W p l e R s m args below meth c H locs 0 0 Q (F0 m 5 ls []) := by
    intro n5
    induction n5 with
    | zero => intro x5 e5 h1; exact absurd h1 lp_0
    | succ n5 ih5 =>
      intro x5 e5 h1 hr5 ls H locs hl hw
      rw [lp_s] at h1
      refine ob h1 (fun r5 h hk5 => ?_)
      unfold mb_PI_wayOf_5 at h
      refine lv_iload hx hb d_PI_wayOf_5 (lv_at hl 4 rfl) ?_
      refine lv_iconst (v := 5) hx hb d_PI_wayOf_7 (by decide) ?_
      refine lv_icmp_ge (tgt := 56) hx hb d_PI_wayOf_8 (by decide) (fun hc => ?_) (fun hc => ?_)
      · have h := oi h hc
        have q := Option.some.inj h
        subst q
        have q := Option.some.inj hk5
        subst q
        exact X5 (x5.1, x5.2) hr5 _ _ _ (lv_sub hl [3] rfl) hw
      · have h := oe h hc
        refine lv_iload_n hx hb d_PI_wayOf_11 rfl (lv_at hl 1 rfl) ?_
        refine lv_iconst (v := 5) hx hb d_PI_wayOf_12 (by decide) ?_
        have J33 : ∀ (j33s0 : Int32), mj_PI_wayOf_33 N u2 x5 j33s0 = some r5 → ∀ (ls : Array Slot) (H : Heap) (locs : List Loc), lv_has ls 7 [(0, .ref (ad 1)), (1, .int u1), (2, .int u2), (3, .long x5.1), (5, .int x5.2)] → fw_H D vwCl A s.heap (wC ad cI cL kk kn le ff fo ct fx gv pg cu co sg ru nu tg sc sr wy) H locs → W p l e R s m args below meth c H locs 0 0 Q (F0 m 33 ls [.int j33s0]) := by
          intro j33s0 h ls H locs hl hw
          unfold mj_PI_wayOf_33 at h
          refine lv_istore (lv' := [(6, .int j33s0), (0, .ref (ad 1)), (1, .int u1), (2, .int u2), (3, .long x5.1), (5, .int x5.2)]) hx hb d_PI_wayOf_33 hl (by decide) rfl (fun ls hl => ?_)
          refine lv_lload_n hx hb d_PI_wayOf_35 rfl (lv_at hl 4 rfl) ?_
          refine lv_aload_n hx hb d_PI_wayOf_36 rfl (lv_at hl 1 rfl) ?_
          refine lv_iload hx hb d_PI_wayOf_37 (lv_at hl 0 rfl) ?_
          refine lv_iload_n hx hb d_PI_wayOf_39 rfl (lv_at hl 3 rfl) ?_
          refine lv_iload hx hb d_PI_wayOf_40 (lv_at hl 5 rfl) ?_
          refine lv_ishr hx hb d_PI_wayOf_42 ?_
          refine lv_iconst (v := 1) hx hb d_PI_wayOf_43 (by decide) ?_
          refine lv_iand hx hb d_PI_wayOf_44 ?_
          refine ob h (fun r45 h45 h => ?_)
          refine fw_callU (As := [.int j33s0, .int ((u2 >>> (x5.2 &&& 31)) &&& (1 : Int32))]) (rest := [.long x5.1]) (st1 := [.long r45, .long x5.1]) S (ct_KD_bit l D ad cI cL N 1 K3_1 kk kn le ff fo ct fx gv pg cu co sg ru nu tg sc sr wy j33s0 ((u2 >>> (x5.2 &&& 31)) &&& (1 : Int32)) r45 h45) q_322 q_323 q_324 q_243 q_2 k_KD_bit hd_KD_bit rfl ⟨by rw [hR]; decide, by rw [hR]; decide⟩ rfl rfl hX hw hA 1 (ci := 1) rfl rfl hl.1 rfl rfl (Nat.le_of_ble_eq_true rfl) d_PI_wayOf_45 ⟨Nat.zero_le _, Nat.zero_le _⟩ rfl (fun H locs hw => ?_)
          refine lv_lor hx hb d_PI_wayOf_48 ?_
          refine lv_lstore_n (lv' := [(3, .long (x5.1 ||| r45)), (6, .int j33s0), (0, .ref (ad 1)), (1, .int u1), (2, .int u2), (5, .int x5.2)]) hx hb d_PI_wayOf_49 rfl hl (by decide) rfl (fun ls hl => ?_)
          refine lv_iinc (k := 5) (v := x5.2 + 1) (lv' := [(5, .int (x5.2 + 1)), (3, .long (x5.1 ||| r45)), (6, .int j33s0), (0, .ref (ad 1)), (1, .int u1), (2, .int u2)]) hx hb d_PI_wayOf_50 hl rfl (by rw [lit1]) (by decide) rfl (fun ls hl => ?_)
          refine lv_goto (tgt := 5) hx hb d_PI_wayOf_53 (by decide) ?_
          have q := Option.some.inj h
          subst q
          exact ih5 (x5.1 ||| r45, x5.2 + 1) e5 hk5 hr5 _ _ _ (lv_sub hl [3, 4, 5, 1, 0] rfl) hw
        refine lv_icmp_ge (tgt := 25) hx hb d_PI_wayOf_13 (by decide) (fun hc => ?_) (fun hc => ?_)
        · have h := oi h hc
          refine lv_iload hx hb d_PI_wayOf_25 (lv_at hl 4 rfl) ?_
          refine lv_iconst (v := 5) hx hb d_PI_wayOf_27 (by decide) ?_
          refine lv_imul hx hb d_PI_wayOf_28 ?_
          refine lv_iload_n hx hb d_PI_wayOf_29 rfl (lv_at hl 1 rfl) ?_
          refine lv_iadd hx hb d_PI_wayOf_30 ?_
          refine lv_iconst (v := 5) hx hb d_PI_wayOf_31 (by decide) ?_
          refine lv_isub hx hb d_PI_wayOf_32 ?_
          exact J33 (((x5.2 * (5 : Int32)) + u1) - (5 : Int32)) h _ _ _ hl hw
        · have h := oe h hc
          refine lv_iload_n hx hb d_PI_wayOf_16 rfl (lv_at hl 1 rfl) ?_
          refine lv_iconst (v := 5) hx hb d_PI_wayOf_17 (by decide) ?_
          refine lv_imul hx hb d_PI_wayOf_18 ?_
          refine lv_iload hx hb d_PI_wayOf_19 (lv_at hl 4 rfl) ?_
          refine lv_iadd hx hb d_PI_wayOf_21 ?_
          refine lv_goto (tgt := 33) hx hb d_PI_wayOf_22 (by decide) ?_
          exact J33 ((u1 * (5 : Int32)) + x5.2) h _ _ _ hl hw
  refine ob h (fun e5 h1 h2 => ?_)
  exact L5 N ((0 : Int64), (0 : Int32)) e5 h1 h2 _ _ _ (lv_sub hl [2, 3, 4, 1, 0] rfl) hw
set_option maxHeartbeats 4000000 in
set_option maxRecDepth 100000 in
theorem ct_PI_addOtherUnits (l : Launch) (D : va_G) (ad : Nat → Nat) (cI cL : ClassId) (N : Nat) (kk : Nat) (kn : Int32) (le : Int64) (ff : Int64) (fo : Int32) (ct : Int32) (fx : Int32) (gv : Nat → Int32) (pg : Nat → Int32) (cu : Nat → Int32) (co : Nat → Int32) (sg : Nat → Int32) (ru : Nat → Int32) (nu : Nat → Int32) (tg : Nat → Int32) (sc : Nat → Int64) (sr : Nat → Int32) (wy : Nat → Int64)  (out : Int32 × (Nat → Int64) × (Nat → Int32) × (Nat → Int64)) (h : mi_PI_addOtherUnits N ct cu co sc sr wy = some out) : fw_C l y_PI_addOtherUnits (.code y_PI_addOtherUnits b_PI_addOtherUnits 4 (none) :: Gw) (fr 2 48) D vwCl (tyA cI cL) [.ref (ad 1), .ref (ad 5)] (wC ad cI cL kk kn le ff fo ct fx gv pg cu co sg ru nu tg sc sr wy) none (wC ad cI cL kk kn le ff fo out.1 fx gv pg cu co sg ru nu tg out.2.1 out.2.2.1 out.2.2.2) := by
  refine fw_of (by decide) (Nat.le_of_ble_eq_true rfl) ?_
  intro p e s m args below meth c ls A R Q hR hQ S hr hlk hX hA hl hw
  have hK := hX.1
  have hx := S.1
  have hb := S.2.1
  have hown := S.2.2.2.1
  have hg := S.2.2.2.2
  have hl : lv_has ls 4 [(0, .ref (ad 1)), (1, .ref (ad 5))] := hl
  unfold mi_PI_addOtherUnits at h
  refine lv_iconst (v := 0) hx hb d_PI_addOtherUnits_0 (by decide) ?_
  refine lv_istore_n (lv' := [(2, .int (0 : Int32)), (0, .ref (ad 1)), (1, .ref (ad 5))]) hx hb d_PI_addOtherUnits_1 rfl hl (by decide) rfl (fun ls hl => ?_)
  have X2 : ∀ (y2 : Int32 × Int32 × (Nat → Int64) × (Nat → Int32) × (Nat → Int64)), mr_PI_addOtherUnits_2 y2 = some out → ∀ (ls : Array Slot) (H : Heap) (locs : List Loc), lv_has ls 4 [] → fw_H D vwCl A s.heap (wC ad cI cL kk kn le ff fo y2.2.1 fx gv pg cu co sg ru nu tg y2.2.2.1 y2.2.2.2.1 y2.2.2.2.2) H locs → W p l e R s m args below meth c H locs 0 0 Q (F0 m 81 ls []) := by
    intro y2 h ls H locs hl hw
    unfold mr_PI_addOtherUnits_2 at h
    have q := Option.some.inj h
    subst q
    exact fw_vret hQ S hr hlk hX hw d_PI_addOtherUnits_81
  have L2 : ∀ (n2 : Nat) (x2 : Int32 × Int32 × (Nat → Int64) × (Nat → Int32) × (Nat → Int64)) (e2 : Int32 × Int32 × (Nat → Int64) × (Nat → Int32) × (Nat → Int64)), lp (mb_PI_addOtherUnits_2 N cu co) n2 x2 = some e2 → (mr_PI_addOtherUnits_2) e2 = some out → ∀ (ls : Array Slot) (H : Heap) (locs : List Loc), lv_has ls 4 [(0, .ref (ad 1)), (1, .ref (ad 5)), (2, .int x2.1)] → fw_H D vwCl A s.heap (wC ad cI cL kk kn le ff fo x2.2.1 fx gv pg cu co sg ru nu tg x2.2.2.1 x2.2.2.2.1 x2.2.2.2.2) H locs → W p l e R s m args below meth c H locs 0 0 Q (F0 m 2 ls []) := by
    intro n2
    induction n2 with
    | zero => intro x2 e2 h1; exact absurd h1 lp_0
    | succ n2 ih2 =>
      intro x2 e2 h1 hr2 ls H locs hl hw
      rw [lp_s] at h1
      refine ob h1 (fun r2 h hk2 => ?_)
      unfold mb_PI_addOtherUnits_2 at h
      refine lv_iload_n hx hb d_PI_addOtherUnits_2 rfl (lv_at hl 2 rfl) ?_
      refine lv_bipush (v := 10) hx hb d_PI_addOtherUnits_3 (by decide) ?_
      refine lv_icmp_ge (tgt := 81) hx hb d_PI_addOtherUnits_5 (by decide) (fun hc => ?_) (fun hc => ?_)
      · have h := oi h hc
        have q := Option.some.inj h
        subst q
        have q := Option.some.inj hk2
        subst q
        exact X2 (x2.1, x2.2.1, x2.2.2.1, x2.2.2.2.1, x2.2.2.2.2) hr2 _ _ _ (lv_sub hl [] rfl) hw
      · have h := oe h hc
        refine lv_aload_n hx hb d_PI_addOtherUnits_8 rfl (lv_at hl 1 rfl) ?_
        refine lv_aload_n hx hb d_PI_addOtherUnits_9 rfl (lv_at hl 0 rfl) ?_
        refine lv_iload_n hx hb d_PI_addOtherUnits_10 rfl (lv_at hl 2 rfl) ?_
        refine lv_iconst (v := 5) hx hb d_PI_addOtherUnits_11 (by decide) ?_
        have J30 : ∀ (j30s2 : Int32), mj_PI_addOtherUnits_30 N cu co x2 j30s2 = some r2 → ∀ (ls : Array Slot) (H : Heap) (locs : List Loc), lv_has ls 4 [(0, .ref (ad 1)), (1, .ref (ad 5)), (2, .int x2.1)] → fw_H D vwCl A s.heap (wC ad cI cL kk kn le ff fo x2.2.1 fx gv pg cu co sg ru nu tg x2.2.2.1 x2.2.2.2.1 x2.2.2.2.2) H locs → W p l e R s m args below meth c H locs 0 0 Q (F0 m 30 ls [.int j30s2, .ref (ad 1), .ref (ad 5)]) := by
          intro j30s2 h ls H locs hl hw
          unfold mj_PI_addOtherUnits_30 at h
          refine ob h (fun r30 h30 h => ?_)
          refine fw_callU (As := [.int j30s2]) (rest := [.ref (ad 5)]) (st1 := [.long r30, .ref (ad 5)]) S (ct_KD_scopeOf l D ad cI cL N 1 K3_1 kk kn le ff fo x2.2.1 fx gv pg cu co sg ru nu tg x2.2.2.1 x2.2.2.2.1 x2.2.2.2.2 j30s2 r30 h30) q_314 q_315 q_316 q_203 q_2 k_KD_scopeOf hd_KD_scopeOf rfl ⟨by rw [hR]; decide, by rw [hR]; decide⟩ rfl rfl hX hw hA 1 (ci := 1) rfl rfl hl.1 rfl rfl (Nat.le_of_ble_eq_true rfl) d_PI_addOtherUnits_30 ⟨Nat.zero_le _, Nat.zero_le _⟩ rfl (fun H locs hw => ?_)
          refine ob h (fun r33 h33 h => ?_)
          refine fw_callV (As := [.long r30]) (rest := []) (st1 := []) S (ct_UN_begin l D ad cI cL N kk kn le ff fo x2.2.1 fx gv pg cu co sg ru nu tg x2.2.2.1 x2.2.2.2.1 x2.2.2.2.2 r30 r33 h33) q_317 q_213 q_214 q_7 k_UN_begin hd_UN_begin ⟨by rw [hR]; decide, by rw [hR]; decide⟩ rfl rfl hX hw hA 5 (ci := 5) rfl rfl hl.1 rfl rfl (Nat.le_of_ble_eq_true rfl) d_PI_addOtherUnits_33 ⟨Nat.zero_le _, Nat.zero_le _⟩ rfl (fun H locs hw => ?_)
          refine lv_iconst (v := 0) hx hb d_PI_addOtherUnits_36 (by decide) ?_
          refine lv_istore_n (lv' := [(3, .int (0 : Int32)), (0, .ref (ad 1)), (1, .ref (ad 5)), (2, .int x2.1)]) hx hb d_PI_addOtherUnits_37 rfl hl (by decide) rfl (fun ls hl => ?_)
          have X38 : ∀ (y38 : Int32 × (Nat → Int32) × (Nat → Int64)), mr_PI_addOtherUnits_38 x2 r33 y38 = some r2 → ∀ (ls : Array Slot) (H : Heap) (locs : List Loc), lv_has ls 4 [(0, .ref (ad 1)), (1, .ref (ad 5)), (2, .int x2.1)] → fw_H D vwCl A s.heap (wC ad cI cL kk kn le ff fo r33.1 fx gv pg cu co sg ru nu tg r33.2.1 y38.2.1 y38.2.2) H locs → W p l e R s m args below meth c H locs 0 0 Q (F0 m 75 ls []) := by
            intro y38 h ls H locs hl hw
            unfold mr_PI_addOtherUnits_38 at h
            refine lv_iinc (k := 2) (v := x2.1 + 1) (lv' := [(2, .int (x2.1 + 1)), (0, .ref (ad 1)), (1, .ref (ad 5))]) hx hb d_PI_addOtherUnits_75 hl rfl (by rw [lit1]) (by decide) rfl (fun ls hl => ?_)
            refine lv_goto (tgt := 2) hx hb d_PI_addOtherUnits_78 (by decide) ?_
            have q := Option.some.inj h
            subst q
            exact ih2 (x2.1 + 1, r33.1, r33.2.1, y38.2.1, y38.2.2) e2 hk2 hr2 _ _ _ (lv_sub hl [1, 2, 0] rfl) hw
          have L38 : ∀ (n38 : Nat) (x38 : Int32 × (Nat → Int32) × (Nat → Int64)) (e38 : Int32 × (Nat → Int32) × (Nat → Int64)), lp (mb_PI_addOtherUnits_38 N cu co x2 r33) n38 x38 = some e38 → (mr_PI_addOtherUnits_38 x2 r33) e38 = some r2 → ∀ (ls : Array Slot) (H : Heap) (locs : List Loc), lv_has ls 4 [(0, .ref (ad 1)), (1, .ref (ad 5)), (2, .int x2.1), (3, .int x38.1)] → fw_H D vwCl A s.heap (wC ad cI cL kk kn le ff fo r33.1 fx gv pg cu co sg ru nu tg r33.2.1 x38.2.1 x38.2.2) H locs → W p l e R s m args below meth c H locs 0 0 Q (F0 m 38 ls []) := by
            intro n38
            induction n38 with
            | zero => intro x38 e38 h1; exact absurd h1 lp_0
            | succ n38 ih38 =>
              intro x38 e38 h1 hr38 ls H locs hl hw
              rw [lp_s] at h1
              refine ob h1 (fun r38 h hk38 => ?_)
              unfold mb_PI_addOtherUnits_38 at h
              refine lv_iload_n hx hb d_PI_addOtherUnits_38 rfl (lv_at hl 3 rfl) ?_
              refine lv_bipush (v := 32) hx hb d_PI_addOtherUnits_39 (by decide) ?_
              refine lv_icmp_ge (tgt := 75) hx hb d_PI_addOtherUnits_41 (by decide) (fun hc => ?_) (fun hc => ?_)
              · have h := oi h hc
                have q := Option.some.inj h
                subst q
                have q := Option.some.inj hk38
                subst q
                exact X38 (x38.1, x38.2.1, x38.2.2) hr38 _ _ _ (lv_sub hl [0, 1, 2] rfl) hw
              · have h := oe h hc
                refine lv_aload_n hx hb d_PI_addOtherUnits_44 rfl (lv_at hl 0 rfl) ?_
                refine va_get (ci := 1) (v := .ref (ad 9)) (C := R_PI) (T := F_PI) (N := 8) hx hb hg in_PI hown hK hw.1 1 rfl rfl 7 (by decide) (hg _ q_42) (fun _ h9 => h9) rfl d_PI_addOtherUnits_45 ?_
                refine lv_iload_n hx hb d_PI_addOtherUnits_48 rfl (lv_at hl 3 rfl) ?_
                refine oc h (fun hc1 h => ?_)
                refine va_iald hx hb hK hw.1 9 0 rfl rfl hc1 d_PI_addOtherUnits_49 ?_
                refine lv_aload_n hx hb d_PI_addOtherUnits_50 rfl (lv_at hl 0 rfl) ?_
                refine va_get (ci := 1) (v := .ref (ad 8)) (C := R_PI) (T := F_PI) (N := 8) hx hb hg in_PI hown hK hw.1 1 rfl rfl 6 (by decide) (hg _ q_40) (fun _ h9 => h9) rfl d_PI_addOtherUnits_51 ?_
                refine lv_iload_n hx hb d_PI_addOtherUnits_54 rfl (lv_at hl 2 rfl) ?_
                refine oc h (fun hc2 h => ?_)
                refine va_iald hx hb hK hw.1 8 0 rfl rfl hc2 d_PI_addOtherUnits_55 ?_
                refine lv_icmp_ne (tgt := 69) hx hb d_PI_addOtherUnits_56 (by decide) (fun hc => ?_) (fun hc => ?_)
                · have h := oe h hc
                  refine lv_iinc (k := 3) (v := x38.1 + 1) (lv' := [(3, .int (x38.1 + 1)), (0, .ref (ad 1)), (1, .ref (ad 5)), (2, .int x2.1)]) hx hb d_PI_addOtherUnits_69 hl rfl (by rw [lit1]) (by decide) rfl (fun ls hl => ?_)
                  refine lv_goto (tgt := 38) hx hb d_PI_addOtherUnits_72 (by decide) ?_
                  have q := Option.some.inj h
                  subst q
                  exact ih38 (x38.1 + 1, x38.2.1, x38.2.2) e38 hk38 hr38 _ _ _ (lv_sub hl [1, 2, 3, 0] rfl) hw
                · have h := oi h hc
                  refine lv_aload_n hx hb d_PI_addOtherUnits_59 rfl (lv_at hl 1 rfl) ?_
                  refine lv_aload_n hx hb d_PI_addOtherUnits_60 rfl (lv_at hl 0 rfl) ?_
                  refine lv_iload_n hx hb d_PI_addOtherUnits_61 rfl (lv_at hl 2 rfl) ?_
                  refine lv_iload_n hx hb d_PI_addOtherUnits_62 rfl (lv_at hl 3 rfl) ?_
                  refine ob h (fun r63 h63 h => ?_)
                  refine fw_callV (As := [.int x2.1, .int x38.1]) (rest := [.ref (ad 5)]) (st1 := [.long r63, .ref (ad 5)]) S (ct_PI_wayOf l D ad cI cL N kk kn le ff fo r33.1 fx gv pg cu co sg ru nu tg r33.2.1 x38.2.1 x38.2.2 x2.1 x38.1 r63 h63) q_318 q_320 s_8 q_3 k_PI_wayOf hd_PI_wayOf ⟨by rw [hR]; decide, by rw [hR]; decide⟩ rfl rfl hX hw hA 1 (ci := 1) rfl rfl hl.1 rfl rfl (Nat.le_of_ble_eq_true rfl) d_PI_addOtherUnits_63 ⟨Nat.zero_le _, Nat.zero_le _⟩ rfl (fun H locs hw => ?_)
                  refine ob h (fun r66 h66 h => ?_)
                  refine fw_callV (As := [.long r63]) (rest := []) (st1 := []) S (ct_UN_addWay l D ad cI cL N kk kn le ff fo r33.1 fx gv pg cu co sg ru nu tg r33.2.1 x38.2.1 x38.2.2 r63 r66 h66) q_325 q_225 q_226 q_7 k_UN_addWay hd_UN_addWay ⟨by rw [hR]; decide, by rw [hR]; decide⟩ rfl rfl hX hw hA 5 (ci := 5) rfl rfl hl.1 rfl rfl (Nat.le_of_ble_eq_true rfl) d_PI_addOtherUnits_66 ⟨Nat.zero_le _, Nat.zero_le _⟩ rfl (fun H locs hw => ?_)
                  refine lv_iinc (k := 3) (v := x38.1 + 1) (lv' := [(3, .int (x38.1 + 1)), (0, .ref (ad 1)), (1, .ref (ad 5)), (2, .int x2.1)]) hx hb d_PI_addOtherUnits_69 hl rfl (by rw [lit1]) (by decide) rfl (fun ls hl => ?_)
                  refine lv_goto (tgt := 38) hx hb d_PI_addOtherUnits_72 (by decide) ?_
                  have q := Option.some.inj h
                  subst q
                  exact ih38 (x38.1 + 1, r66.1, r66.2) e38 hk38 hr38 _ _ _ (lv_sub hl [1, 2, 3, 0] rfl) hw
          refine ob h (fun e38 h1 h2 => ?_)
          exact L38 N ((0 : Int32), r33.2.2, x2.2.2.2.2) e38 h1 h2 _ _ _ (lv_sub hl [1, 2, 3, 0] rfl) hw
        refine lv_icmp_ge (tgt := 23) hx hb d_PI_addOtherUnits_12 (by decide) (fun hc => ?_) (fun hc => ?_)
        · have h := oi h hc
          refine lv_aload_n hx hb d_PI_addOtherUnits_23 rfl (lv_at hl 0 rfl) ?_
          refine lv_iload_n hx hb d_PI_addOtherUnits_24 rfl (lv_at hl 2 rfl) ?_
          refine lv_iconst (v := 5) hx hb d_PI_addOtherUnits_25 (by decide) ?_
          refine lv_isub hx hb d_PI_addOtherUnits_26 ?_
          refine ob h (fun r27 h27 h => ?_)
          refine fw_callU (As := [.int (x2.1 - (5 : Int32))]) (rest := [.ref (ad 1), .ref (ad 5)]) (st1 := [.int r27, .ref (ad 1), .ref (ad 5)]) S (ct_KD_columnCells l D ad cI cL N 1 K3_1 kk kn le ff fo x2.2.1 fx gv pg cu co sg ru nu tg x2.2.2.1 x2.2.2.2.1 x2.2.2.2.2 (x2.1 - (5 : Int32)) r27 h27) q_311 q_312 q_313 q_249 q_2 k_KD_columnCells hd_KD_columnCells rfl ⟨by rw [hR]; decide, by rw [hR]; decide⟩ rfl rfl hX hw hA 1 (ci := 1) rfl rfl hl.1 rfl rfl (Nat.le_of_ble_eq_true rfl) d_PI_addOtherUnits_27 ⟨Nat.zero_le _, Nat.zero_le _⟩ rfl (fun H locs hw => ?_)
          exact J30 r27 h _ _ _ hl hw
        · have h := oe h hc
          refine lv_aload_n hx hb d_PI_addOtherUnits_15 rfl (lv_at hl 0 rfl) ?_
          refine lv_iload_n hx hb d_PI_addOtherUnits_16 rfl (lv_at hl 2 rfl) ?_
          refine ob h (fun r17 h17 h => ?_)
          refine fw_callU (As := [.int x2.1]) (rest := [.ref (ad 1), .ref (ad 5)]) (st1 := [.int r17, .ref (ad 1), .ref (ad 5)]) S (ct_KD_rowCells l D ad cI cL N 1 K3_1 kk kn le ff fo x2.2.1 fx gv pg cu co sg ru nu tg x2.2.2.1 x2.2.2.2.1 x2.2.2.2.2 x2.1 r17 h17) q_308 q_309 q_310 q_193 q_2 k_KD_rowCells hd_KD_rowCells rfl ⟨by rw [hR]; decide, by rw [hR]; decide⟩ rfl rfl hX hw hA 1 (ci := 1) rfl rfl hl.1 rfl rfl (Nat.le_of_ble_eq_true rfl) d_PI_addOtherUnits_17 ⟨Nat.zero_le _, Nat.zero_le _⟩ rfl (fun H locs hw => ?_)
          refine lv_goto (tgt := 30) hx hb d_PI_addOtherUnits_20 (by decide) ?_
          exact J30 r17 h _ _ _ hl hw
  refine ob h (fun e2 h1 h2 => ?_)
  exact L2 N ((0 : Int32), ct, sc, sr, wy) e2 h1 h2 _ _ _ (lv_sub hl [1, 2, 0] rfl) hw
