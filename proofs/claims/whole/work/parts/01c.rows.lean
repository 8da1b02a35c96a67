theorem inX0 : ∀ w ∈ wsX00, w ∈ lw_tbl := by decide +kernel
theorem inlX1 : ∀ w ∈ wsX10, w ∈ wsL_law := fun _ h => List.mem_append_left _ (List.mem_append_left _ (List.mem_append_left _ (List.mem_append_right _ h)))
theorem inlX2 : ∀ w ∈ wsX20, w ∈ wsL_law := fun _ h => List.mem_append_left _ (List.mem_append_left _ (List.mem_append_left _ (List.mem_append_left _ (List.mem_append_right _ h))))
theorem inlX3 : ∀ w ∈ wsX30, w ∈ wsL_law := fun _ h => List.mem_append_left _ (List.mem_append_right _ h)
theorem inlX4 : ∀ w ∈ wsX40, w ∈ wsL_law := fun _ h => List.mem_append_left _ (List.mem_append_left _ (List.mem_append_right _ h))
theorem inlX5 : ∀ w ∈ wsX50, w ∈ wsL_law := fun _ h => List.mem_append_left _ (List.mem_append_left _ (List.mem_append_left _ (List.mem_append_left _ (List.mem_append_left _ (List.mem_append_left _ (List.mem_append_right _ h))))))
theorem inlX6 : ∀ w ∈ wsX60, w ∈ wsL_law := fun _ h => List.mem_append_left _ (List.mem_append_left _ (List.mem_append_left _ (List.mem_append_left _ (List.mem_append_left _ (List.mem_append_right _ h)))))
theorem inJ6 : ∀ w ∈ wsJ60, w ∈ lw_tbl := by decide +kernel
theorem inJ9 : ∀ w ∈ wsJ90, w ∈ lw_tbl := by decide +kernel
theorem inJ10 : ∀ w ∈ wsJ100, w ∈ lw_tbl := by decide +kernel
set_option maxRecDepth 20000 in
theorem ggX0_allStates_X2_order : GoodIn wsX0_allStates wsX2_order := goodIn_r _ [5, 6, 7, 8] (by decide +kernel) (by decide +kernel)
set_option maxRecDepth 20000 in
theorem gX0_allStates_X2_order : GoodIn wsX0_allStates (wsV RX0 7 RX2 yX2_order wsX2_order) := goodIn_app (goodIn_of _ (by decide +kernel)) ggX0_allStates_X2_order
theorem dX0_allStates_0 : decode cX0_allStates 0 = .ok (.iconst 1, 1) := by decide +kernel
theorem dX0_allStates_1 : decode cX0_allStates 1 = .ok (.aload_n 0, 1) := by decide +kernel
theorem dX0_allStates_2 : decode cX0_allStates 2 = .ok (.invokevirtual 7, 3) := by decide +kernel
theorem dX0_allStates_5 : decode cX0_allStates 5 = .ok (.ishl, 1) := by decide +kernel
theorem dX0_allStates_6 : decode cX0_allStates 6 = .ok (.iconst 1, 1) := by decide +kernel
theorem dX0_allStates_7 : decode cX0_allStates 7 = .ok (.isub, 1) := by decide +kernel
theorem dX0_allStates_8 : decode cX0_allStates 8 = .ok (.ireturn, 1) := by decide +kernel
set_option maxRecDepth 20000 in
theorem ggX0_statesAfter_X2_order : GoodIn wsX0_statesAfter wsX2_order := goodIn_r _ [5, 6, 20, 21] (by decide +kernel) (by decide +kernel)
set_option maxRecDepth 20000 in
theorem gX0_statesAfter_X2_order : GoodIn wsX0_statesAfter (wsV RX0 7 RX2 yX2_order wsX2_order) := goodIn_app (goodIn_of _ (by decide +kernel)) ggX0_statesAfter_X2_order
set_option maxRecDepth 20000 in
theorem ggX0_statesAfter_X0_directlyAfter : GoodIn wsX0_statesAfter wsX0_directlyAfter := goodIn_r _ [10, 1, 2, 3, 4, 5, 6, 11, 12, 13, 14, 15, 16, 17, 18, 19, 20, 21] (by decide +kernel) (by decide +kernel)
set_option maxRecDepth 20000 in
theorem gX0_statesAfter_X0_directlyAfter : GoodIn wsX0_statesAfter (va_wsS RX0 13 yX0_directlyAfter wsX0_directlyAfter) := goodIn_app (goodIn_of _ (by decide +kernel)) ggX0_statesAfter_X0_directlyAfter
theorem dX0_statesAfter_0 : decode cX0_statesAfter 0 = .ok (.iconst 0, 1) := by decide +kernel
theorem dX0_statesAfter_1 : decode cX0_statesAfter 1 = .ok (.istore_n 2, 1) := by decide +kernel
theorem dX0_statesAfter_2 : decode cX0_statesAfter 2 = .ok (.iconst 0, 1) := by decide +kernel
theorem dX0_statesAfter_3 : decode cX0_statesAfter 3 = .ok (.istore_n 3, 1) := by decide +kernel
theorem dX0_statesAfter_4 : decode cX0_statesAfter 4 = .ok (.iload_n 3, 1) := by decide +kernel
theorem dX0_statesAfter_5 : decode cX0_statesAfter 5 = .ok (.aload_n 0, 1) := by decide +kernel
theorem dX0_statesAfter_6 : decode cX0_statesAfter 6 = .ok (.invokevirtual 7, 3) := by decide +kernel
theorem dX0_statesAfter_9 : decode cX0_statesAfter 9 = .ok (.if_icmp .ge 25, 3) := by decide +kernel
theorem dX0_statesAfter_12 : decode cX0_statesAfter 12 = .ok (.iload_n 1, 1) := by decide +kernel
theorem dX0_statesAfter_13 : decode cX0_statesAfter 13 = .ok (.iload_n 3, 1) := by decide +kernel
theorem dX0_statesAfter_14 : decode cX0_statesAfter 14 = .ok (.ishr, 1) := by decide +kernel
theorem dX0_statesAfter_15 : decode cX0_statesAfter 15 = .ok (.iconst 1, 1) := by decide +kernel
theorem dX0_statesAfter_16 : decode cX0_statesAfter 16 = .ok (.iand, 1) := by decide +kernel
theorem dX0_statesAfter_17 : decode cX0_statesAfter 17 = .ok (.ifCond .eq 11, 3) := by decide +kernel
theorem dX0_statesAfter_20 : decode cX0_statesAfter 20 = .ok (.iload_n 2, 1) := by decide +kernel
theorem dX0_statesAfter_21 : decode cX0_statesAfter 21 = .ok (.aload_n 0, 1) := by decide +kernel
theorem dX0_statesAfter_22 : decode cX0_statesAfter 22 = .ok (.iload_n 3, 1) := by decide +kernel
theorem dX0_statesAfter_23 : decode cX0_statesAfter 23 = .ok (.invokestatic 13, 3) := by decide +kernel
theorem dX0_statesAfter_26 : decode cX0_statesAfter 26 = .ok (.ior, 1) := by decide +kernel
theorem dX0_statesAfter_27 : decode cX0_statesAfter 27 = .ok (.istore_n 2, 1) := by decide +kernel
theorem dX0_statesAfter_28 : decode cX0_statesAfter 28 = .ok (.iinc 3 1, 3) := by decide +kernel
theorem dX0_statesAfter_31 : decode cX0_statesAfter 31 = .ok (.goto (-27), 3) := by decide +kernel
theorem dX0_statesAfter_34 : decode cX0_statesAfter 34 = .ok (.iload_n 2, 1) := by decide +kernel
theorem dX0_statesAfter_35 : decode cX0_statesAfter 35 = .ok (.ireturn, 1) := by decide +kernel
set_option maxRecDepth 20000 in
theorem ggX0_statesBefore_X2_order : GoodIn wsX0_statesBefore wsX2_order := goodIn_r _ [5, 6, 20, 21] (by decide +kernel) (by decide +kernel)
set_option maxRecDepth 20000 in
theorem gX0_statesBefore_X2_order : GoodIn wsX0_statesBefore (wsV RX0 7 RX2 yX2_order wsX2_order) := goodIn_app (goodIn_of _ (by decide +kernel)) ggX0_statesBefore_X2_order
set_option maxRecDepth 20000 in
theorem ggX0_statesBefore_X0_directlyAfter : GoodIn wsX0_statesBefore wsX0_directlyAfter := goodIn_r _ [10, 1, 2, 3, 4, 5, 6, 11, 12, 13, 14, 15, 16, 17, 18, 19, 20, 21] (by decide +kernel) (by decide +kernel)
set_option maxRecDepth 20000 in
theorem gX0_statesBefore_X0_directlyAfter : GoodIn wsX0_statesBefore (va_wsS RX0 13 yX0_directlyAfter wsX0_directlyAfter) := goodIn_app (goodIn_of _ (by decide +kernel)) ggX0_statesBefore_X0_directlyAfter
theorem dX0_statesBefore_0 : decode cX0_statesBefore 0 = .ok (.iconst 0, 1) := by decide +kernel
theorem dX0_statesBefore_1 : decode cX0_statesBefore 1 = .ok (.istore_n 2, 1) := by decide +kernel
theorem dX0_statesBefore_2 : decode cX0_statesBefore 2 = .ok (.iconst 0, 1) := by decide +kernel
theorem dX0_statesBefore_3 : decode cX0_statesBefore 3 = .ok (.istore_n 3, 1) := by decide +kernel
theorem dX0_statesBefore_4 : decode cX0_statesBefore 4 = .ok (.iload_n 3, 1) := by decide +kernel
theorem dX0_statesBefore_5 : decode cX0_statesBefore 5 = .ok (.aload_n 0, 1) := by decide +kernel
theorem dX0_statesBefore_6 : decode cX0_statesBefore 6 = .ok (.invokevirtual 7, 3) := by decide +kernel
theorem dX0_statesBefore_9 : decode cX0_statesBefore 9 = .ok (.if_icmp .ge 25, 3) := by decide +kernel
theorem dX0_statesBefore_12 : decode cX0_statesBefore 12 = .ok (.aload_n 0, 1) := by decide +kernel
theorem dX0_statesBefore_13 : decode cX0_statesBefore 13 = .ok (.iload_n 3, 1) := by decide +kernel
theorem dX0_statesBefore_14 : decode cX0_statesBefore 14 = .ok (.invokestatic 13, 3) := by decide +kernel
theorem dX0_statesBefore_17 : decode cX0_statesBefore 17 = .ok (.iload_n 1, 1) := by decide +kernel
theorem dX0_statesBefore_18 : decode cX0_statesBefore 18 = .ok (.iand, 1) := by decide +kernel
theorem dX0_statesBefore_19 : decode cX0_statesBefore 19 = .ok (.ifCond .eq 9, 3) := by decide +kernel
theorem dX0_statesBefore_22 : decode cX0_statesBefore 22 = .ok (.iload_n 2, 1) := by decide +kernel
theorem dX0_statesBefore_23 : decode cX0_statesBefore 23 = .ok (.iconst 1, 1) := by decide +kernel
theorem dX0_statesBefore_24 : decode cX0_statesBefore 24 = .ok (.iload_n 3, 1) := by decide +kernel
theorem dX0_statesBefore_25 : decode cX0_statesBefore 25 = .ok (.ishl, 1) := by decide +kernel
theorem dX0_statesBefore_26 : decode cX0_statesBefore 26 = .ok (.ior, 1) := by decide +kernel
theorem dX0_statesBefore_27 : decode cX0_statesBefore 27 = .ok (.istore_n 2, 1) := by decide +kernel
theorem dX0_statesBefore_28 : decode cX0_statesBefore 28 = .ok (.iinc 3 1, 3) := by decide +kernel
theorem dX0_statesBefore_31 : decode cX0_statesBefore 31 = .ok (.goto (-27), 3) := by decide +kernel
theorem dX0_statesBefore_34 : decode cX0_statesBefore 34 = .ok (.iload_n 2, 1) := by decide +kernel
theorem dX0_statesBefore_35 : decode cX0_statesBefore 35 = .ok (.ireturn, 1) := by decide +kernel
set_option maxRecDepth 20000 in
theorem ggX0_essentialSet_X0_allStates : GoodIn wsX0_essentialSet wsX0_allStates := goodIn_r _ [4, 5, 6, 7, 8, 9, 10, 29, 30] (by decide +kernel) (by decide +kernel)
set_option maxRecDepth 20000 in
theorem gX0_essentialSet_X0_allStates : GoodIn wsX0_essentialSet (va_wsS RX0 19 yX0_allStates wsX0_allStates) := goodIn_app (goodIn_of _ (by decide +kernel)) ggX0_essentialSet_X0_allStates
set_option maxRecDepth 20000 in
theorem ggX0_essentialSet_X2_order : GoodIn wsX0_essentialSet wsX2_order := goodIn_r _ [9, 10, 29, 30] (by decide +kernel) (by decide +kernel)
set_option maxRecDepth 20000 in
theorem gX0_essentialSet_X2_order : GoodIn wsX0_essentialSet (wsV RX0 7 RX2 yX2_order wsX2_order) := goodIn_app (goodIn_of _ (by decide +kernel)) ggX0_essentialSet_X2_order
set_option maxRecDepth 20000 in
theorem ggX0_essentialSet_X0_statesAfter : GoodIn wsX0_essentialSet wsX0_statesAfter := goodIn_r _ [13, 5, 6, 7, 8, 9, 10, 14, 15, 3, 16, 17, 18, 19, 20, 21, 22, 23, 24, 25, 29, 30] (by decide +kernel) (by decide +kernel)
set_option maxRecDepth 20000 in
theorem gX0_essentialSet_X0_statesAfter : GoodIn wsX0_essentialSet (va_wsS RX0 23 yX0_statesAfter wsX0_statesAfter) := goodIn_app (goodIn_of _ (by decide +kernel)) ggX0_essentialSet_X0_statesAfter
set_option maxRecDepth 20000 in
theorem ggX0_essentialSet_X0_statesBefore : GoodIn wsX0_essentialSet wsX0_statesBefore := goodIn_r _ [28, 5, 6, 7, 8, 9, 10, 14, 15, 3, 16, 17, 18, 19, 20, 21, 22, 23, 24, 25, 29, 30] (by decide +kernel) (by decide +kernel)
set_option maxRecDepth 20000 in
theorem gX0_essentialSet_X0_statesBefore : GoodIn wsX0_essentialSet (va_wsS RX0 26 yX0_statesBefore wsX0_statesBefore) := goodIn_app (goodIn_of _ (by decide +kernel)) ggX0_essentialSet_X0_statesBefore
theorem dX0_essentialSet_0 : decode cX0_essentialSet 0 = .ok (.aload_n 0, 1) := by decide +kernel
theorem dX0_essentialSet_1 : decode cX0_essentialSet 1 = .ok (.invokestatic 19, 3) := by decide +kernel
theorem dX0_essentialSet_4 : decode cX0_essentialSet 4 = .ok (.istore_n 1, 1) := by decide +kernel
theorem dX0_essentialSet_5 : decode cX0_essentialSet 5 = .ok (.aload_n 0, 1) := by decide +kernel
theorem dX0_essentialSet_6 : decode cX0_essentialSet 6 = .ok (.invokestatic 19, 3) := by decide +kernel
theorem dX0_essentialSet_9 : decode cX0_essentialSet 9 = .ok (.istore_n 2, 1) := by decide +kernel
theorem dX0_essentialSet_10 : decode cX0_essentialSet 10 = .ok (.iconst 1, 1) := by decide +kernel
theorem dX0_essentialSet_11 : decode cX0_essentialSet 11 = .ok (.istore_n 3, 1) := by decide +kernel
theorem dX0_essentialSet_12 : decode cX0_essentialSet 12 = .ok (.iload_n 3, 1) := by decide +kernel
theorem dX0_essentialSet_13 : decode cX0_essentialSet 13 = .ok (.aload_n 0, 1) := by decide +kernel
theorem dX0_essentialSet_14 : decode cX0_essentialSet 14 = .ok (.invokevirtual 7, 3) := by decide +kernel
theorem dX0_essentialSet_17 : decode cX0_essentialSet 17 = .ok (.if_icmp .gt 21, 3) := by decide +kernel
theorem dX0_essentialSet_20 : decode cX0_essentialSet 20 = .ok (.aload_n 0, 1) := by decide +kernel
theorem dX0_essentialSet_21 : decode cX0_essentialSet 21 = .ok (.iload_n 1, 1) := by decide +kernel
theorem dX0_essentialSet_22 : decode cX0_essentialSet 22 = .ok (.invokestatic 23, 3) := by decide +kernel
theorem dX0_essentialSet_25 : decode cX0_essentialSet 25 = .ok (.istore_n 1, 1) := by decide +kernel
theorem dX0_essentialSet_26 : decode cX0_essentialSet 26 = .ok (.aload_n 0, 1) := by decide +kernel
theorem dX0_essentialSet_27 : decode cX0_essentialSet 27 = .ok (.iload_n 2, 1) := by decide +kernel
theorem dX0_essentialSet_28 : decode cX0_essentialSet 28 = .ok (.invokestatic 26, 3) := by decide +kernel
theorem dX0_essentialSet_31 : decode cX0_essentialSet 31 = .ok (.istore_n 2, 1) := by decide +kernel
theorem dX0_essentialSet_32 : decode cX0_essentialSet 32 = .ok (.iinc 3 1, 3) := by decide +kernel
theorem dX0_essentialSet_35 : decode cX0_essentialSet 35 = .ok (.goto (-23), 3) := by decide +kernel
theorem dX0_essentialSet_38 : decode cX0_essentialSet 38 = .ok (.iload_n 1, 1) := by decide +kernel
theorem dX0_essentialSet_39 : decode cX0_essentialSet 39 = .ok (.iload_n 2, 1) := by decide +kernel
theorem dX0_essentialSet_40 : decode cX0_essentialSet 40 = .ok (.iand, 1) := by decide +kernel
theorem dX0_essentialSet_41 : decode cX0_essentialSet 41 = .ok (.ireturn, 1) := by decide +kernel
set_option maxRecDepth 20000 in
theorem ggX0_lowestOfComponent_X0_componentSet : GoodIn wsX0_lowestOfComponent wsX0_componentSet := goodIn_r _ [4, 5, 6, 7, 8, 9, 10, 11, 12, 3, 13, 14, 15, 16, 17, 18, 19, 20, 21, 22, 23, 24, 25, 26, 27, 28, 29, 30] (by decide +kernel) (by decide +kernel)
set_option maxRecDepth 20000 in
theorem gX0_lowestOfComponent_X0_componentSet : GoodIn wsX0_lowestOfComponent (va_wsS RX0 29 yX0_componentSet wsX0_componentSet) := goodIn_app (goodIn_of _ (by decide +kernel)) ggX0_lowestOfComponent_X0_componentSet
theorem dX0_lowestOfComponent_0 : decode cX0_lowestOfComponent 0 = .ok (.aload_n 0, 1) := by decide +kernel
theorem dX0_lowestOfComponent_1 : decode cX0_lowestOfComponent 1 = .ok (.iload_n 1, 1) := by decide +kernel
theorem dX0_lowestOfComponent_2 : decode cX0_lowestOfComponent 2 = .ok (.invokestatic 29, 3) := by decide +kernel
theorem dX0_lowestOfComponent_5 : decode cX0_lowestOfComponent 5 = .ok (.istore_n 2, 1) := by decide +kernel
theorem dX0_lowestOfComponent_6 : decode cX0_lowestOfComponent 6 = .ok (.iconst 0, 1) := by decide +kernel
theorem dX0_lowestOfComponent_7 : decode cX0_lowestOfComponent 7 = .ok (.istore_n 3, 1) := by decide +kernel
theorem dX0_lowestOfComponent_8 : decode cX0_lowestOfComponent 8 = .ok (.iload_n 3, 1) := by decide +kernel
theorem dX0_lowestOfComponent_9 : decode cX0_lowestOfComponent 9 = .ok (.iload_n 1, 1) := by decide +kernel
theorem dX0_lowestOfComponent_10 : decode cX0_lowestOfComponent 10 = .ok (.if_icmp .ge 17, 3) := by decide +kernel
theorem dX0_lowestOfComponent_13 : decode cX0_lowestOfComponent 13 = .ok (.iload_n 2, 1) := by decide +kernel
theorem dX0_lowestOfComponent_14 : decode cX0_lowestOfComponent 14 = .ok (.iload_n 3, 1) := by decide +kernel
theorem dX0_lowestOfComponent_15 : decode cX0_lowestOfComponent 15 = .ok (.ishr, 1) := by decide +kernel
theorem dX0_lowestOfComponent_16 : decode cX0_lowestOfComponent 16 = .ok (.iconst 1, 1) := by decide +kernel
theorem dX0_lowestOfComponent_17 : decode cX0_lowestOfComponent 17 = .ok (.iand, 1) := by decide +kernel
theorem dX0_lowestOfComponent_18 : decode cX0_lowestOfComponent 18 = .ok (.ifCond .ne 9, 3) := by decide +kernel
theorem dX0_lowestOfComponent_21 : decode cX0_lowestOfComponent 21 = .ok (.iinc 3 1, 3) := by decide +kernel
theorem dX0_lowestOfComponent_24 : decode cX0_lowestOfComponent 24 = .ok (.goto (-16), 3) := by decide +kernel
theorem dX0_lowestOfComponent_27 : decode cX0_lowestOfComponent 27 = .ok (.iload_n 3, 1) := by decide +kernel
theorem dX0_lowestOfComponent_28 : decode cX0_lowestOfComponent 28 = .ok (.ireturn, 1) := by decide +kernel
set_option maxRecDepth 20000 in
theorem ggX0_componentsBelow_X0_componentSet : GoodIn wsX0_componentsBelow wsX0_componentSet := goodIn_r _ [4, 5, 6, 7, 8, 9, 10, 11, 12, 3, 13, 14, 15, 16, 17, 18, 19, 20, 21, 22, 23, 24, 25, 26, 27, 28, 29, 30] (by decide +kernel) (by decide +kernel)
set_option maxRecDepth 20000 in
theorem gX0_componentsBelow_X0_componentSet : GoodIn wsX0_componentsBelow (va_wsS RX0 29 yX0_componentSet wsX0_componentSet) := goodIn_app (goodIn_of _ (by decide +kernel)) ggX0_componentsBelow_X0_componentSet
theorem dX0_componentsBelow_0 : decode cX0_componentsBelow 0 = .ok (.iconst 0, 1) := by decide +kernel
theorem dX0_componentsBelow_1 : decode cX0_componentsBelow 1 = .ok (.istore_n 2, 1) := by decide +kernel
theorem dX0_componentsBelow_2 : decode cX0_componentsBelow 2 = .ok (.iconst 0, 1) := by decide +kernel
theorem dX0_componentsBelow_3 : decode cX0_componentsBelow 3 = .ok (.istore_n 3, 1) := by decide +kernel
theorem dX0_componentsBelow_4 : decode cX0_componentsBelow 4 = .ok (.iload_n 3, 1) := by decide +kernel
theorem dX0_componentsBelow_5 : decode cX0_componentsBelow 5 = .ok (.iload_n 1, 1) := by decide +kernel
theorem dX0_componentsBelow_6 : decode cX0_componentsBelow 6 = .ok (.if_icmp .ge 30, 3) := by decide +kernel
theorem dX0_componentsBelow_9 : decode cX0_componentsBelow 9 = .ok (.iconst 1, 1) := by decide +kernel
theorem dX0_componentsBelow_10 : decode cX0_componentsBelow 10 = .ok (.iload_n 3, 1) := by decide +kernel
theorem dX0_componentsBelow_11 : decode cX0_componentsBelow 11 = .ok (.ishl, 1) := by decide +kernel
theorem dX0_componentsBelow_12 : decode cX0_componentsBelow 12 = .ok (.iconst 1, 1) := by decide +kernel
theorem dX0_componentsBelow_13 : decode cX0_componentsBelow 13 = .ok (.isub, 1) := by decide +kernel
theorem dX0_componentsBelow_14 : decode cX0_componentsBelow 14 = .ok (.istore 4, 2) := by decide +kernel
theorem dX0_componentsBelow_16 : decode cX0_componentsBelow 16 = .ok (.aload_n 0, 1) := by decide +kernel
theorem dX0_componentsBelow_17 : decode cX0_componentsBelow 17 = .ok (.iload_n 3, 1) := by decide +kernel
theorem dX0_componentsBelow_18 : decode cX0_componentsBelow 18 = .ok (.invokestatic 29, 3) := by decide +kernel
theorem dX0_componentsBelow_21 : decode cX0_componentsBelow 21 = .ok (.iload 4, 2) := by decide +kernel
theorem dX0_componentsBelow_23 : decode cX0_componentsBelow 23 = .ok (.iand, 1) := by decide +kernel
theorem dX0_componentsBelow_24 : decode cX0_componentsBelow 24 = .ok (.ifCond .ne 6, 3) := by decide +kernel
theorem dX0_componentsBelow_27 : decode cX0_componentsBelow 27 = .ok (.iinc 2 1, 3) := by decide +kernel
theorem dX0_componentsBelow_30 : decode cX0_componentsBelow 30 = .ok (.iinc 3 1, 3) := by decide +kernel
theorem dX0_componentsBelow_33 : decode cX0_componentsBelow 33 = .ok (.goto (-29), 3) := by decide +kernel
theorem dX0_componentsBelow_36 : decode cX0_componentsBelow 36 = .ok (.iload_n 2, 1) := by decide +kernel
theorem dX0_componentsBelow_37 : decode cX0_componentsBelow 37 = .ok (.ireturn, 1) := by decide +kernel
set_option maxRecDepth 20000 in
theorem ggX0_divisorOfReturns_X2_order : GoodIn wsX0_divisorOfReturns wsX2_order := goodIn_r _ [5, 6, 26, 27] (by decide +kernel) (by decide +kernel)
set_option maxRecDepth 20000 in
theorem gX0_divisorOfReturns_X2_order : GoodIn wsX0_divisorOfReturns (wsV RX0 7 RX2 yX2_order wsX2_order) := goodIn_app (goodIn_of _ (by decide +kernel)) ggX0_divisorOfReturns_X2_order
set_option maxRecDepth 20000 in
theorem ggX0_divisorOfReturns_X0_statesAfter : GoodIn wsX0_divisorOfReturns wsX0_statesAfter := goodIn_r _ [10, 1, 2, 3, 4, 5, 6, 11, 12, 9, 13, 14, 15, 16, 17, 18, 19, 20, 21, 22, 26, 27] (by decide +kernel) (by decide +kernel)
set_option maxRecDepth 20000 in
theorem gX0_divisorOfReturns_X0_statesAfter : GoodIn wsX0_divisorOfReturns (va_wsS RX0 23 yX0_statesAfter wsX0_statesAfter) := goodIn_app (goodIn_of _ (by decide +kernel)) ggX0_divisorOfReturns_X0_statesAfter
set_option maxRecDepth 20000 in
theorem ggX0_divisorOfReturns_X5_greatestCommonDivisor : GoodIn wsX0_divisorOfReturns wsX5_greatestCommonDivisor := goodIn_r _ [25] (by decide +kernel) (by decide +kernel)
set_option maxRecDepth 20000 in
theorem gX0_divisorOfReturns_X5_greatestCommonDivisor_n32 : GoodIn wsX0_divisorOfReturns (wsX5_greatestCommonDivisor) := ggX0_divisorOfReturns_X5_greatestCommonDivisor
theorem dX0_divisorOfReturns_0 : decode cX0_divisorOfReturns 0 = .ok (.iconst 1, 1) := by decide +kernel
theorem dX0_divisorOfReturns_1 : decode cX0_divisorOfReturns 1 = .ok (.iload_n 1, 1) := by decide +kernel
theorem dX0_divisorOfReturns_2 : decode cX0_divisorOfReturns 2 = .ok (.ishl, 1) := by decide +kernel
theorem dX0_divisorOfReturns_3 : decode cX0_divisorOfReturns 3 = .ok (.istore_n 2, 1) := by decide +kernel
theorem dX0_divisorOfReturns_4 : decode cX0_divisorOfReturns 4 = .ok (.lconst 0, 1) := by decide +kernel
theorem dX0_divisorOfReturns_5 : decode cX0_divisorOfReturns 5 = .ok (.lstore_n 3, 1) := by decide +kernel
theorem dX0_divisorOfReturns_6 : decode cX0_divisorOfReturns 6 = .ok (.iconst 1, 1) := by decide +kernel
theorem dX0_divisorOfReturns_7 : decode cX0_divisorOfReturns 7 = .ok (.istore 5, 2) := by decide +kernel
theorem dX0_divisorOfReturns_9 : decode cX0_divisorOfReturns 9 = .ok (.iload 5, 2) := by decide +kernel
theorem dX0_divisorOfReturns_11 : decode cX0_divisorOfReturns 11 = .ok (.iconst 3, 1) := by decide +kernel
theorem dX0_divisorOfReturns_12 : decode cX0_divisorOfReturns 12 = .ok (.aload_n 0, 1) := by decide +kernel
theorem dX0_divisorOfReturns_13 : decode cX0_divisorOfReturns 13 = .ok (.invokevirtual 7, 3) := by decide +kernel
theorem dX0_divisorOfReturns_16 : decode cX0_divisorOfReturns 16 = .ok (.imul, 1) := by decide +kernel
theorem dX0_divisorOfReturns_17 : decode cX0_divisorOfReturns 17 = .ok (.if_icmp .gt 31, 3) := by decide +kernel
theorem dX0_divisorOfReturns_20 : decode cX0_divisorOfReturns 20 = .ok (.aload_n 0, 1) := by decide +kernel
theorem dX0_divisorOfReturns_21 : decode cX0_divisorOfReturns 21 = .ok (.iload_n 2, 1) := by decide +kernel
theorem dX0_divisorOfReturns_22 : decode cX0_divisorOfReturns 22 = .ok (.invokestatic 23, 3) := by decide +kernel
theorem dX0_divisorOfReturns_25 : decode cX0_divisorOfReturns 25 = .ok (.istore_n 2, 1) := by decide +kernel
theorem dX0_divisorOfReturns_26 : decode cX0_divisorOfReturns 26 = .ok (.iload_n 2, 1) := by decide +kernel
theorem dX0_divisorOfReturns_27 : decode cX0_divisorOfReturns 27 = .ok (.iload_n 1, 1) := by decide +kernel
theorem dX0_divisorOfReturns_28 : decode cX0_divisorOfReturns 28 = .ok (.ishr, 1) := by decide +kernel
theorem dX0_divisorOfReturns_29 : decode cX0_divisorOfReturns 29 = .ok (.iconst 1, 1) := by decide +kernel
theorem dX0_divisorOfReturns_30 : decode cX0_divisorOfReturns 30 = .ok (.iand, 1) := by decide +kernel
theorem dX0_divisorOfReturns_31 : decode cX0_divisorOfReturns 31 = .ok (.ifCond .eq 11, 3) := by decide +kernel
theorem dX0_divisorOfReturns_34 : decode cX0_divisorOfReturns 34 = .ok (.lload_n 3, 1) := by decide +kernel
theorem dX0_divisorOfReturns_35 : decode cX0_divisorOfReturns 35 = .ok (.iload 5, 2) := by decide +kernel
theorem dX0_divisorOfReturns_37 : decode cX0_divisorOfReturns 37 = .ok (.i2l, 1) := by decide +kernel
theorem dX0_divisorOfReturns_38 : decode cX0_divisorOfReturns 38 = .ok (.invokestatic 32, 3) := by decide +kernel
theorem dX0_divisorOfReturns_41 : decode cX0_divisorOfReturns 41 = .ok (.lstore_n 3, 1) := by decide +kernel
theorem dX0_divisorOfReturns_42 : decode cX0_divisorOfReturns 42 = .ok (.iinc 5 1, 3) := by decide +kernel
theorem dX0_divisorOfReturns_45 : decode cX0_divisorOfReturns 45 = .ok (.goto (-36), 3) := by decide +kernel
theorem dX0_divisorOfReturns_48 : decode cX0_divisorOfReturns 48 = .ok (.lload_n 3, 1) := by decide +kernel
theorem dX0_divisorOfReturns_49 : decode cX0_divisorOfReturns 49 = .ok (.l2i, 1) := by decide +kernel
theorem dX0_divisorOfReturns_50 : decode cX0_divisorOfReturns 50 = .ok (.ireturn, 1) := by decide +kernel
set_option maxRecDepth 20000 in
theorem ggX0_componentSet_X2_order : GoodIn wsX0_componentSet wsX2_order := goodIn_r _ [5, 6, 26, 27] (by decide +kernel) (by decide +kernel)
set_option maxRecDepth 20000 in
theorem gX0_componentSet_X2_order : GoodIn wsX0_componentSet (wsV RX0 7 RX2 yX2_order wsX2_order) := goodIn_app (goodIn_of _ (by decide +kernel)) ggX0_componentSet_X2_order
set_option maxRecDepth 20000 in
theorem ggX0_componentSet_X0_statesAfter : GoodIn wsX0_componentSet wsX0_statesAfter := goodIn_r _ [10, 1, 2, 3, 4, 5, 6, 11, 12, 9, 13, 14, 15, 16, 17, 18, 19, 20, 21, 22, 26, 27] (by decide +kernel) (by decide +kernel)
set_option maxRecDepth 20000 in
theorem gX0_componentSet_X0_statesAfter : GoodIn wsX0_componentSet (va_wsS RX0 23 yX0_statesAfter wsX0_statesAfter) := goodIn_app (goodIn_of _ (by decide +kernel)) ggX0_componentSet_X0_statesAfter
set_option maxRecDepth 20000 in
theorem ggX0_componentSet_X0_statesBefore : GoodIn wsX0_componentSet wsX0_statesBefore := goodIn_r _ [25, 1, 2, 3, 4, 5, 6, 11, 12, 9, 13, 14, 15, 16, 17, 18, 19, 20, 21, 22, 26, 27] (by decide +kernel) (by decide +kernel)
set_option maxRecDepth 20000 in
theorem gX0_componentSet_X0_statesBefore : GoodIn wsX0_componentSet (va_wsS RX0 26 yX0_statesBefore wsX0_statesBefore) := goodIn_app (goodIn_of _ (by decide +kernel)) ggX0_componentSet_X0_statesBefore
theorem dX0_componentSet_0 : decode cX0_componentSet 0 = .ok (.iconst 1, 1) := by decide +kernel
theorem dX0_componentSet_1 : decode cX0_componentSet 1 = .ok (.iload_n 1, 1) := by decide +kernel
theorem dX0_componentSet_2 : decode cX0_componentSet 2 = .ok (.ishl, 1) := by decide +kernel
theorem dX0_componentSet_3 : decode cX0_componentSet 3 = .ok (.istore_n 2, 1) := by decide +kernel
theorem dX0_componentSet_4 : decode cX0_componentSet 4 = .ok (.iconst 1, 1) := by decide +kernel
theorem dX0_componentSet_5 : decode cX0_componentSet 5 = .ok (.iload_n 1, 1) := by decide +kernel
theorem dX0_componentSet_6 : decode cX0_componentSet 6 = .ok (.ishl, 1) := by decide +kernel
theorem dX0_componentSet_7 : decode cX0_componentSet 7 = .ok (.istore_n 3, 1) := by decide +kernel
theorem dX0_componentSet_8 : decode cX0_componentSet 8 = .ok (.iconst 1, 1) := by decide +kernel
theorem dX0_componentSet_9 : decode cX0_componentSet 9 = .ok (.istore 4, 2) := by decide +kernel
theorem dX0_componentSet_11 : decode cX0_componentSet 11 = .ok (.iload 4, 2) := by decide +kernel
theorem dX0_componentSet_13 : decode cX0_componentSet 13 = .ok (.aload_n 0, 1) := by decide +kernel
theorem dX0_componentSet_14 : decode cX0_componentSet 14 = .ok (.invokevirtual 7, 3) := by decide +kernel
theorem dX0_componentSet_17 : decode cX0_componentSet 17 = .ok (.if_icmp .ge 25, 3) := by decide +kernel
theorem dX0_componentSet_20 : decode cX0_componentSet 20 = .ok (.iload_n 2, 1) := by decide +kernel
theorem dX0_componentSet_21 : decode cX0_componentSet 21 = .ok (.aload_n 0, 1) := by decide +kernel
theorem dX0_componentSet_22 : decode cX0_componentSet 22 = .ok (.iload_n 2, 1) := by decide +kernel
theorem dX0_componentSet_23 : decode cX0_componentSet 23 = .ok (.invokestatic 23, 3) := by decide +kernel
theorem dX0_componentSet_26 : decode cX0_componentSet 26 = .ok (.ior, 1) := by decide +kernel
theorem dX0_componentSet_27 : decode cX0_componentSet 27 = .ok (.istore_n 2, 1) := by decide +kernel
theorem dX0_componentSet_28 : decode cX0_componentSet 28 = .ok (.iload_n 3, 1) := by decide +kernel
theorem dX0_componentSet_29 : decode cX0_componentSet 29 = .ok (.aload_n 0, 1) := by decide +kernel
theorem dX0_componentSet_30 : decode cX0_componentSet 30 = .ok (.iload_n 3, 1) := by decide +kernel
theorem dX0_componentSet_31 : decode cX0_componentSet 31 = .ok (.invokestatic 26, 3) := by decide +kernel
theorem dX0_componentSet_34 : decode cX0_componentSet 34 = .ok (.ior, 1) := by decide +kernel
theorem dX0_componentSet_35 : decode cX0_componentSet 35 = .ok (.istore_n 3, 1) := by decide +kernel
theorem dX0_componentSet_36 : decode cX0_componentSet 36 = .ok (.iinc 4 1, 3) := by decide +kernel
theorem dX0_componentSet_39 : decode cX0_componentSet 39 = .ok (.goto (-28), 3) := by decide +kernel
theorem dX0_componentSet_42 : decode cX0_componentSet 42 = .ok (.iload_n 2, 1) := by decide +kernel
theorem dX0_componentSet_43 : decode cX0_componentSet 43 = .ok (.iload_n 3, 1) := by decide +kernel
theorem dX0_componentSet_44 : decode cX0_componentSet 44 = .ok (.iand, 1) := by decide +kernel
theorem dX0_componentSet_45 : decode cX0_componentSet 45 = .ok (.ireturn, 1) := by decide +kernel
set_option maxRecDepth 20000 in
theorem ggX0_directlyAfter_X2_order : GoodIn wsX0_directlyAfter wsX2_order := goodIn_r _ [5, 6, 16, 17] (by decide +kernel) (by decide +kernel)
set_option maxRecDepth 20000 in
theorem gX0_directlyAfter_X2_order : GoodIn wsX0_directlyAfter (wsV RX0 7 RX2 yX2_order wsX2_order) := goodIn_app (goodIn_of _ (by decide +kernel)) ggX0_directlyAfter_X2_order
set_option maxRecDepth 20000 in
theorem ggX0_directlyAfter_X2_cell : GoodIn wsX0_directlyAfter wsX2_cell := goodIn_r _ [10, 11, 12, 13, 14, 4, 15, 6, 16, 17] (by decide +kernel) (by decide +kernel)
set_option maxRecDepth 20000 in
theorem gX0_directlyAfter_X2_cell : GoodIn wsX0_directlyAfter (wsV RX0 38 RX2 yX2_cell wsX2_cell) := goodIn_app (goodIn_of _ (by decide +kernel)) ggX0_directlyAfter_X2_cell
theorem dX0_directlyAfter_0 : decode cX0_directlyAfter 0 = .ok (.iconst 0, 1) := by decide +kernel
theorem dX0_directlyAfter_1 : decode cX0_directlyAfter 1 = .ok (.istore_n 2, 1) := by decide +kernel
theorem dX0_directlyAfter_2 : decode cX0_directlyAfter 2 = .ok (.iconst 0, 1) := by decide +kernel
theorem dX0_directlyAfter_3 : decode cX0_directlyAfter 3 = .ok (.istore_n 3, 1) := by decide +kernel
theorem dX0_directlyAfter_4 : decode cX0_directlyAfter 4 = .ok (.iload_n 3, 1) := by decide +kernel
theorem dX0_directlyAfter_5 : decode cX0_directlyAfter 5 = .ok (.aload_n 0, 1) := by decide +kernel
theorem dX0_directlyAfter_6 : decode cX0_directlyAfter 6 = .ok (.invokevirtual 7, 3) := by decide +kernel
theorem dX0_directlyAfter_9 : decode cX0_directlyAfter 9 = .ok (.if_icmp .ge 24, 3) := by decide +kernel
theorem dX0_directlyAfter_12 : decode cX0_directlyAfter 12 = .ok (.aload_n 0, 1) := by decide +kernel
theorem dX0_directlyAfter_13 : decode cX0_directlyAfter 13 = .ok (.iload_n 1, 1) := by decide +kernel
theorem dX0_directlyAfter_14 : decode cX0_directlyAfter 14 = .ok (.iload_n 3, 1) := by decide +kernel
theorem dX0_directlyAfter_15 : decode cX0_directlyAfter 15 = .ok (.invokevirtual 38, 3) := by decide +kernel
theorem dX0_directlyAfter_18 : decode cX0_directlyAfter 18 = .ok (.ifCond .eq 9, 3) := by decide +kernel
theorem dX0_directlyAfter_21 : decode cX0_directlyAfter 21 = .ok (.iload_n 2, 1) := by decide +kernel
theorem dX0_directlyAfter_22 : decode cX0_directlyAfter 22 = .ok (.iconst 1, 1) := by decide +kernel
theorem dX0_directlyAfter_23 : decode cX0_directlyAfter 23 = .ok (.iload_n 3, 1) := by decide +kernel
theorem dX0_directlyAfter_24 : decode cX0_directlyAfter 24 = .ok (.ishl, 1) := by decide +kernel
theorem dX0_directlyAfter_25 : decode cX0_directlyAfter 25 = .ok (.ior, 1) := by decide +kernel
theorem dX0_directlyAfter_26 : decode cX0_directlyAfter 26 = .ok (.istore_n 2, 1) := by decide +kernel
theorem dX0_directlyAfter_27 : decode cX0_directlyAfter 27 = .ok (.iinc 3 1, 3) := by decide +kernel
theorem dX0_directlyAfter_30 : decode cX0_directlyAfter 30 = .ok (.goto (-26), 3) := by decide +kernel
theorem dX0_directlyAfter_33 : decode cX0_directlyAfter 33 = .ok (.iload_n 2, 1) := by decide +kernel
theorem dX0_directlyAfter_34 : decode cX0_directlyAfter 34 = .ok (.ireturn, 1) := by decide +kernel
set_option maxRecDepth 20000 in
theorem ggX1_init_X2_init : GoodIn wsX1_init wsX2_init := goodIn_r _ [12, 13, 2, 3, 14, 15, 16, 21, 22] (by decide +kernel) (by decide +kernel)
set_option maxRecDepth 20000 in
theorem gX1_init_X2_init_n27 : GoodIn wsX1_init (wsX2_init) := ggX1_init_X2_init
theorem dX1_init_0 : decode cX1_init 0 = .ok (.aload_n 0, 1) := by decide +kernel
theorem dX1_init_1 : decode cX1_init 1 = .ok (.invokespecial 3, 3) := by decide +kernel
theorem dX1_init_4 : decode cX1_init 4 = .ok (.aload_n 0, 1) := by decide +kernel
theorem dX1_init_5 : decode cX1_init 5 = .ok (.iconst 4, 1) := by decide +kernel
theorem dX1_init_6 : decode cX1_init 6 = .ok (.anewarray 9, 3) := by decide +kernel
theorem dX1_init_9 : decode cX1_init 9 = .ok (.putfield 11, 3) := by decide +kernel
theorem dX1_init_12 : decode cX1_init 12 = .ok (.aload_n 0, 1) := by decide +kernel
theorem dX1_init_13 : decode cX1_init 13 = .ok (.iconst 4, 1) := by decide +kernel
theorem dX1_init_14 : decode cX1_init 14 = .ok (.anewarray 9, 3) := by decide +kernel
theorem dX1_init_17 : decode cX1_init 17 = .ok (.putfield 17, 3) := by decide +kernel
theorem dX1_init_20 : decode cX1_init 20 = .ok (.aload_n 0, 1) := by decide +kernel
theorem dX1_init_21 : decode cX1_init 21 = .ok (.iconst 0, 1) := by decide +kernel
theorem dX1_init_22 : decode cX1_init 22 = .ok (.putfield 20, 3) := by decide +kernel
theorem dX1_init_25 : decode cX1_init 25 = .ok (.aload_n 0, 1) := by decide +kernel
theorem dX1_init_26 : decode cX1_init 26 = .ok (.iconst 0, 1) := by decide +kernel
theorem dX1_init_27 : decode cX1_init 27 = .ok (.putfield 24, 3) := by decide +kernel
theorem dX1_init_30 : decode cX1_init 30 = .ok (.iconst 0, 1) := by decide +kernel
theorem dX1_init_31 : decode cX1_init 31 = .ok (.istore_n 1, 1) := by decide +kernel
theorem dX1_init_32 : decode cX1_init 32 = .ok (.iload_n 1, 1) := by decide +kernel
theorem dX1_init_33 : decode cX1_init 33 = .ok (.iconst 4, 1) := by decide +kernel
theorem dX1_init_34 : decode cX1_init 34 = .ok (.if_icmp .ge 35, 3) := by decide +kernel
theorem dX1_init_37 : decode cX1_init 37 = .ok (.aload_n 0, 1) := by decide +kernel
theorem dX1_init_38 : decode cX1_init 38 = .ok (.getfield 11, 3) := by decide +kernel
theorem dX1_init_41 : decode cX1_init 41 = .ok (.iload_n 1, 1) := by decide +kernel
theorem dX1_init_42 : decode cX1_init 42 = .ok (.new 9, 3) := by decide +kernel
theorem dX1_init_45 : decode cX1_init 45 = .ok (.dup, 1) := by decide +kernel
theorem dX1_init_46 : decode cX1_init 46 = .ok (.invokespecial 27, 3) := by decide +kernel
theorem dX1_init_49 : decode cX1_init 49 = .ok (.aastore, 1) := by decide +kernel
theorem dX1_init_50 : decode cX1_init 50 = .ok (.aload_n 0, 1) := by decide +kernel
theorem dX1_init_51 : decode cX1_init 51 = .ok (.getfield 17, 3) := by decide +kernel
theorem dX1_init_54 : decode cX1_init 54 = .ok (.iload_n 1, 1) := by decide +kernel
theorem dX1_init_55 : decode cX1_init 55 = .ok (.new 9, 3) := by decide +kernel
theorem dX1_init_58 : decode cX1_init 58 = .ok (.dup, 1) := by decide +kernel
theorem dX1_init_59 : decode cX1_init 59 = .ok (.invokespecial 27, 3) := by decide +kernel
theorem dX1_init_62 : decode cX1_init 62 = .ok (.aastore, 1) := by decide +kernel
theorem dX1_init_63 : decode cX1_init 63 = .ok (.iinc 1 1, 3) := by decide +kernel
theorem dX1_init_66 : decode cX1_init 66 = .ok (.goto (-34), 3) := by decide +kernel
theorem dX1_init_69 : decode cX1_init 69 = .ok (.return_, 1) := by decide +kernel
theorem dX1_count_0 : decode cX1_count 0 = .ok (.aload_n 0, 1) := by decide +kernel
theorem dX1_count_1 : decode cX1_count 1 = .ok (.getfield 24, 3) := by decide +kernel
theorem dX1_count_4 : decode cX1_count 4 = .ok (.ireturn, 1) := by decide +kernel
set_option maxRecDepth 20000 in
theorem ggX1_remember_X2_copy : GoodIn wsX1_remember wsX2_copy := goodIn_r _ [13, 14, 15, 16, 17, 12, 18, 19, 4, 5, 6, 20, 21, 22, 23, 24, 25, 26, 27, 28, 29, 30, 31, 32, 33, 34, 35, 40, 41] (by decide +kernel) (by decide +kernel)
set_option maxRecDepth 20000 in
theorem gX1_remember_X2_copy : GoodIn wsX1_remember (wsV RX1 34 RX2 yX2_copy wsX2_copy) := goodIn_app (goodIn_of _ (by decide +kernel)) ggX1_remember_X2_copy
theorem dX1_remember_0 : decode cX1_remember 0 = .ok (.aload_n 0, 1) := by decide +kernel
theorem dX1_remember_1 : decode cX1_remember 1 = .ok (.aload_n 0, 1) := by decide +kernel
theorem dX1_remember_2 : decode cX1_remember 2 = .ok (.getfield 20, 3) := by decide +kernel
theorem dX1_remember_5 : decode cX1_remember 5 = .ok (.iconst 1, 1) := by decide +kernel
theorem dX1_remember_6 : decode cX1_remember 6 = .ok (.iadd, 1) := by decide +kernel
theorem dX1_remember_7 : decode cX1_remember 7 = .ok (.iconst 4, 1) := by decide +kernel
theorem dX1_remember_8 : decode cX1_remember 8 = .ok (.irem, 1) := by decide +kernel
theorem dX1_remember_9 : decode cX1_remember 9 = .ok (.putfield 20, 3) := by decide +kernel
theorem dX1_remember_12 : decode cX1_remember 12 = .ok (.aload_n 0, 1) := by decide +kernel
theorem dX1_remember_13 : decode cX1_remember 13 = .ok (.aload_n 0, 1) := by decide +kernel
theorem dX1_remember_14 : decode cX1_remember 14 = .ok (.getfield 24, 3) := by decide +kernel
theorem dX1_remember_17 : decode cX1_remember 17 = .ok (.iconst 1, 1) := by decide +kernel
theorem dX1_remember_18 : decode cX1_remember 18 = .ok (.iadd, 1) := by decide +kernel
theorem dX1_remember_19 : decode cX1_remember 19 = .ok (.iconst 4, 1) := by decide +kernel
theorem dX1_remember_20 : decode cX1_remember 20 = .ok (.invokestatic 28, 3) := by decide +kernel
theorem dX1_remember_23 : decode cX1_remember 23 = .ok (.putfield 24, 3) := by decide +kernel
theorem dX1_remember_26 : decode cX1_remember 26 = .ok (.aload_n 0, 1) := by decide +kernel
theorem dX1_remember_27 : decode cX1_remember 27 = .ok (.getfield 11, 3) := by decide +kernel
theorem dX1_remember_30 : decode cX1_remember 30 = .ok (.aload_n 0, 1) := by decide +kernel
theorem dX1_remember_31 : decode cX1_remember 31 = .ok (.getfield 20, 3) := by decide +kernel
theorem dX1_remember_34 : decode cX1_remember 34 = .ok (.aaload, 1) := by decide +kernel
theorem dX1_remember_35 : decode cX1_remember 35 = .ok (.astore_n 3, 1) := by decide +kernel
theorem dX1_remember_36 : decode cX1_remember 36 = .ok (.aload_n 0, 1) := by decide +kernel
theorem dX1_remember_37 : decode cX1_remember 37 = .ok (.getfield 17, 3) := by decide +kernel
theorem dX1_remember_40 : decode cX1_remember 40 = .ok (.aload_n 0, 1) := by decide +kernel
theorem dX1_remember_41 : decode cX1_remember 41 = .ok (.getfield 20, 3) := by decide +kernel
theorem dX1_remember_44 : decode cX1_remember 44 = .ok (.aaload, 1) := by decide +kernel
theorem dX1_remember_45 : decode cX1_remember 45 = .ok (.astore 4, 2) := by decide +kernel
theorem dX1_remember_47 : decode cX1_remember 47 = .ok (.aload_n 3, 1) := by decide +kernel
theorem dX1_remember_48 : decode cX1_remember 48 = .ok (.ifnull 19, 3) := by decide +kernel
theorem dX1_remember_51 : decode cX1_remember 51 = .ok (.aload 4, 2) := by decide +kernel
theorem dX1_remember_53 : decode cX1_remember 53 = .ok (.ifnull 14, 3) := by decide +kernel
theorem dX1_remember_56 : decode cX1_remember 56 = .ok (.aload_n 3, 1) := by decide +kernel
theorem dX1_remember_57 : decode cX1_remember 57 = .ok (.aload_n 1, 1) := by decide +kernel
theorem dX1_remember_58 : decode cX1_remember 58 = .ok (.invokevirtual 34, 3) := by decide +kernel
theorem dX1_remember_61 : decode cX1_remember 61 = .ok (.aload 4, 2) := by decide +kernel
theorem dX1_remember_63 : decode cX1_remember 63 = .ok (.aload_n 2, 1) := by decide +kernel
theorem dX1_remember_64 : decode cX1_remember 64 = .ok (.invokevirtual 34, 3) := by decide +kernel
theorem dX1_remember_67 : decode cX1_remember 67 = .ok (.return_, 1) := by decide +kernel
set_option maxRecDepth 20000 in
theorem ggX1_restore_X2_copy : GoodIn wsX1_restore wsX2_copy := goodIn_r _ [9, 10, 11, 12, 13, 8, 14, 15, 16, 17, 18, 19, 20, 21, 22, 23, 24, 25, 26, 27, 28, 29, 30, 31, 32, 33, 34, 39, 40] (by decide +kernel) (by decide +kernel)
set_option maxRecDepth 20000 in
theorem gX1_restore_X2_copy : GoodIn wsX1_restore (wsV RX1 34 RX2 yX2_copy wsX2_copy) := goodIn_app (goodIn_of _ (by decide +kernel)) ggX1_restore_X2_copy
theorem dX1_restore_0 : decode cX1_restore 0 = .ok (.aload_n 0, 1) := by decide +kernel
theorem dX1_restore_1 : decode cX1_restore 1 = .ok (.getfield 11, 3) := by decide +kernel
theorem dX1_restore_4 : decode cX1_restore 4 = .ok (.aload_n 0, 1) := by decide +kernel
theorem dX1_restore_5 : decode cX1_restore 5 = .ok (.getfield 20, 3) := by decide +kernel
theorem dX1_restore_8 : decode cX1_restore 8 = .ok (.aaload, 1) := by decide +kernel
theorem dX1_restore_9 : decode cX1_restore 9 = .ok (.astore_n 3, 1) := by decide +kernel
theorem dX1_restore_10 : decode cX1_restore 10 = .ok (.aload_n 0, 1) := by decide +kernel
theorem dX1_restore_11 : decode cX1_restore 11 = .ok (.getfield 17, 3) := by decide +kernel
theorem dX1_restore_14 : decode cX1_restore 14 = .ok (.aload_n 0, 1) := by decide +kernel
theorem dX1_restore_15 : decode cX1_restore 15 = .ok (.getfield 20, 3) := by decide +kernel
theorem dX1_restore_18 : decode cX1_restore 18 = .ok (.aaload, 1) := by decide +kernel
theorem dX1_restore_19 : decode cX1_restore 19 = .ok (.astore 4, 2) := by decide +kernel
theorem dX1_restore_21 : decode cX1_restore 21 = .ok (.aload_n 0, 1) := by decide +kernel
theorem dX1_restore_22 : decode cX1_restore 22 = .ok (.getfield 24, 3) := by decide +kernel
theorem dX1_restore_25 : decode cX1_restore 25 = .ok (.ifCond .le 47, 3) := by decide +kernel
theorem dX1_restore_28 : decode cX1_restore 28 = .ok (.aload_n 3, 1) := by decide +kernel
theorem dX1_restore_29 : decode cX1_restore 29 = .ok (.ifnull 43, 3) := by decide +kernel
theorem dX1_restore_32 : decode cX1_restore 32 = .ok (.aload 4, 2) := by decide +kernel
theorem dX1_restore_34 : decode cX1_restore 34 = .ok (.ifnull 38, 3) := by decide +kernel
theorem dX1_restore_37 : decode cX1_restore 37 = .ok (.aload_n 1, 1) := by decide +kernel
theorem dX1_restore_38 : decode cX1_restore 38 = .ok (.aload_n 3, 1) := by decide +kernel
theorem dX1_restore_39 : decode cX1_restore 39 = .ok (.invokevirtual 34, 3) := by decide +kernel
theorem dX1_restore_42 : decode cX1_restore 42 = .ok (.aload_n 2, 1) := by decide +kernel
theorem dX1_restore_43 : decode cX1_restore 43 = .ok (.aload 4, 2) := by decide +kernel
theorem dX1_restore_45 : decode cX1_restore 45 = .ok (.invokevirtual 34, 3) := by decide +kernel
theorem dX1_restore_48 : decode cX1_restore 48 = .ok (.aload_n 0, 1) := by decide +kernel
theorem dX1_restore_49 : decode cX1_restore 49 = .ok (.aload_n 0, 1) := by decide +kernel
theorem dX1_restore_50 : decode cX1_restore 50 = .ok (.getfield 20, 3) := by decide +kernel
theorem dX1_restore_53 : decode cX1_restore 53 = .ok (.iconst 4, 1) := by decide +kernel
theorem dX1_restore_54 : decode cX1_restore 54 = .ok (.iadd, 1) := by decide +kernel
theorem dX1_restore_55 : decode cX1_restore 55 = .ok (.iconst 1, 1) := by decide +kernel
theorem dX1_restore_56 : decode cX1_restore 56 = .ok (.isub, 1) := by decide +kernel
theorem dX1_restore_57 : decode cX1_restore 57 = .ok (.iconst 4, 1) := by decide +kernel
theorem dX1_restore_58 : decode cX1_restore 58 = .ok (.irem, 1) := by decide +kernel
theorem dX1_restore_59 : decode cX1_restore 59 = .ok (.putfield 20, 3) := by decide +kernel
theorem dX1_restore_62 : decode cX1_restore 62 = .ok (.aload_n 0, 1) := by decide +kernel
theorem dX1_restore_63 : decode cX1_restore 63 = .ok (.dup, 1) := by decide +kernel
theorem dX1_restore_64 : decode cX1_restore 64 = .ok (.getfield 24, 3) := by decide +kernel
theorem dX1_restore_67 : decode cX1_restore 67 = .ok (.iconst 1, 1) := by decide +kernel
theorem dX1_restore_68 : decode cX1_restore 68 = .ok (.isub, 1) := by decide +kernel
theorem dX1_restore_69 : decode cX1_restore 69 = .ok (.putfield 24, 3) := by decide +kernel
theorem dX1_restore_72 : decode cX1_restore 72 = .ok (.return_, 1) := by decide +kernel
theorem dX2_init_0 : decode cX2_init 0 = .ok (.aload_n 0, 1) := by decide +kernel
theorem dX2_init_1 : decode cX2_init 1 = .ok (.invokespecial 3, 3) := by decide +kernel
theorem dX2_init_4 : decode cX2_init 4 = .ok (.aload_n 0, 1) := by decide +kernel
theorem dX2_init_5 : decode cX2_init 5 = .ok (.iconst 1, 1) := by decide +kernel
theorem dX2_init_6 : decode cX2_init 6 = .ok (.putfield 9, 3) := by decide +kernel
theorem dX2_init_9 : decode cX2_init 9 = .ok (.aload_n 0, 1) := by decide +kernel
theorem dX2_init_10 : decode cX2_init 10 = .ok (.bipush 36, 2) := by decide +kernel
theorem dX2_init_12 : decode cX2_init 12 = .ok (.newarray .int, 2) := by decide +kernel
theorem dX2_init_14 : decode cX2_init 14 = .ok (.putfield 15, 3) := by decide +kernel
theorem dX2_init_17 : decode cX2_init 17 = .ok (.return_, 1) := by decide +kernel
theorem dX2_order_0 : decode cX2_order 0 = .ok (.aload_n 0, 1) := by decide +kernel
theorem dX2_order_1 : decode cX2_order 1 = .ok (.getfield 9, 3) := by decide +kernel
theorem dX2_order_4 : decode cX2_order 4 = .ok (.ireturn, 1) := by decide +kernel
theorem dX2_has_0 : decode cX2_has 0 = .ok (.iload_n 1, 1) := by decide +kernel
theorem dX2_has_1 : decode cX2_has 1 = .ok (.ifCond .lt 15, 3) := by decide +kernel
theorem dX2_has_4 : decode cX2_has 4 = .ok (.iload_n 1, 1) := by decide +kernel
theorem dX2_has_5 : decode cX2_has 5 = .ok (.aload_n 0, 1) := by decide +kernel
theorem dX2_has_6 : decode cX2_has 6 = .ok (.getfield 9, 3) := by decide +kernel
theorem dX2_has_9 : decode cX2_has 9 = .ok (.if_icmp .ge 7, 3) := by decide +kernel
theorem dX2_has_12 : decode cX2_has 12 = .ok (.iconst 1, 1) := by decide +kernel
theorem dX2_has_13 : decode cX2_has 13 = .ok (.goto 4, 3) := by decide +kernel
theorem dX2_has_16 : decode cX2_has 16 = .ok (.iconst 0, 1) := by decide +kernel
theorem dX2_has_17 : decode cX2_has 17 = .ok (.ireturn, 1) := by decide +kernel
set_option maxRecDepth 20000 in
theorem ggX2_cell_X2_has : GoodIn wsX2_cell wsX2_has := goodIn_r _ [6, 7, 8, 9] (by decide +kernel) (by decide +kernel)
set_option maxRecDepth 20000 in
theorem gX2_cell_X2_has : GoodIn wsX2_cell (wsV RX2 19 RX2 yX2_has wsX2_has) := goodIn_app (goodIn_of _ (by decide +kernel)) ggX2_cell_X2_has
theorem dX2_cell_0 : decode cX2_cell 0 = .ok (.aload_n 0, 1) := by decide +kernel
theorem dX2_cell_1 : decode cX2_cell 1 = .ok (.iload_n 1, 1) := by decide +kernel
theorem dX2_cell_2 : decode cX2_cell 2 = .ok (.invokevirtual 19, 3) := by decide +kernel
theorem dX2_cell_5 : decode cX2_cell 5 = .ok (.ifCond .eq 25, 3) := by decide +kernel
theorem dX2_cell_8 : decode cX2_cell 8 = .ok (.aload_n 0, 1) := by decide +kernel
theorem dX2_cell_9 : decode cX2_cell 9 = .ok (.iload_n 2, 1) := by decide +kernel
theorem dX2_cell_10 : decode cX2_cell 10 = .ok (.invokevirtual 19, 3) := by decide +kernel
theorem dX2_cell_13 : decode cX2_cell 13 = .ok (.ifCond .eq 17, 3) := by decide +kernel
theorem dX2_cell_16 : decode cX2_cell 16 = .ok (.aload_n 0, 1) := by decide +kernel
theorem dX2_cell_17 : decode cX2_cell 17 = .ok (.getfield 15, 3) := by decide +kernel
theorem dX2_cell_20 : decode cX2_cell 20 = .ok (.iload_n 1, 1) := by decide +kernel
theorem dX2_cell_21 : decode cX2_cell 21 = .ok (.bipush 6, 2) := by decide +kernel
theorem dX2_cell_23 : decode cX2_cell 23 = .ok (.imul, 1) := by decide +kernel
theorem dX2_cell_24 : decode cX2_cell 24 = .ok (.iload_n 2, 1) := by decide +kernel
theorem dX2_cell_25 : decode cX2_cell 25 = .ok (.iadd, 1) := by decide +kernel
theorem dX2_cell_26 : decode cX2_cell 26 = .ok (.iaload, 1) := by decide +kernel
theorem dX2_cell_27 : decode cX2_cell 27 = .ok (.goto 4, 3) := by decide +kernel
theorem dX2_cell_30 : decode cX2_cell 30 = .ok (.iconst 0, 1) := by decide +kernel
theorem dX2_cell_31 : decode cX2_cell 31 = .ok (.ireturn, 1) := by decide +kernel
set_option maxRecDepth 20000 in
theorem ggX2_put_X2_has : GoodIn wsX2_put wsX2_has := goodIn_r _ [6, 7, 8, 9] (by decide +kernel) (by decide +kernel)
set_option maxRecDepth 20000 in
theorem gX2_put_X2_has : GoodIn wsX2_put (wsV RX2 19 RX2 yX2_has wsX2_has) := goodIn_app (goodIn_of _ (by decide +kernel)) ggX2_put_X2_has
theorem dX2_put_0 : decode cX2_put 0 = .ok (.aload_n 0, 1) := by decide +kernel
theorem dX2_put_1 : decode cX2_put 1 = .ok (.iload_n 1, 1) := by decide +kernel
theorem dX2_put_2 : decode cX2_put 2 = .ok (.invokevirtual 19, 3) := by decide +kernel
theorem dX2_put_5 : decode cX2_put 5 = .ok (.ifCond .eq 23, 3) := by decide +kernel
theorem dX2_put_8 : decode cX2_put 8 = .ok (.aload_n 0, 1) := by decide +kernel
theorem dX2_put_9 : decode cX2_put 9 = .ok (.iload_n 2, 1) := by decide +kernel
theorem dX2_put_10 : decode cX2_put 10 = .ok (.invokevirtual 19, 3) := by decide +kernel
theorem dX2_put_13 : decode cX2_put 13 = .ok (.ifCond .eq 15, 3) := by decide +kernel
theorem dX2_put_16 : decode cX2_put 16 = .ok (.aload_n 0, 1) := by decide +kernel
theorem dX2_put_17 : decode cX2_put 17 = .ok (.getfield 15, 3) := by decide +kernel
theorem dX2_put_20 : decode cX2_put 20 = .ok (.iload_n 1, 1) := by decide +kernel
theorem dX2_put_21 : decode cX2_put 21 = .ok (.bipush 6, 2) := by decide +kernel
theorem dX2_put_23 : decode cX2_put 23 = .ok (.imul, 1) := by decide +kernel
theorem dX2_put_24 : decode cX2_put 24 = .ok (.iload_n 2, 1) := by decide +kernel
theorem dX2_put_25 : decode cX2_put 25 = .ok (.iadd, 1) := by decide +kernel
theorem dX2_put_26 : decode cX2_put 26 = .ok (.iload_n 3, 1) := by decide +kernel
theorem dX2_put_27 : decode cX2_put 27 = .ok (.iastore, 1) := by decide +kernel
theorem dX2_put_28 : decode cX2_put 28 = .ok (.return_, 1) := by decide +kernel
set_option maxRecDepth 20000 in
theorem ggX2_fill_X2_resize : GoodIn wsX2_fill wsX2_resize := goodIn_r _ [6, 7, 8, 9, 10, 11, 12, 13, 1, 23, 24] (by decide +kernel) (by decide +kernel)
set_option maxRecDepth 20000 in
theorem gX2_fill_X2_resize : GoodIn wsX2_fill (wsV RX2 23 RX2 yX2_resize wsX2_resize) := goodIn_app (goodIn_of _ (by decide +kernel)) ggX2_fill_X2_resize
set_option maxRecDepth 20000 in
theorem ggX2_fill_X2_put : GoodIn wsX2_fill wsX2_put := goodIn_r _ [17, 18, 19, 20, 21, 5, 22, 1, 23, 24] (by decide +kernel) (by decide +kernel)
set_option maxRecDepth 20000 in
theorem gX2_fill_X2_put : GoodIn wsX2_fill (wsV RX2 27 RX2 yX2_put wsX2_put) := goodIn_app (goodIn_of _ (by decide +kernel)) ggX2_fill_X2_put
theorem dX2_fill_0 : decode cX2_fill 0 = .ok (.aload_n 0, 1) := by decide +kernel
theorem dX2_fill_1 : decode cX2_fill 1 = .ok (.iload_n 1, 1) := by decide +kernel
theorem dX2_fill_2 : decode cX2_fill 2 = .ok (.invokevirtual 23, 3) := by decide +kernel
theorem dX2_fill_5 : decode cX2_fill 5 = .ok (.iconst 0, 1) := by decide +kernel
theorem dX2_fill_6 : decode cX2_fill 6 = .ok (.istore_n 3, 1) := by decide +kernel
theorem dX2_fill_7 : decode cX2_fill 7 = .ok (.iload_n 3, 1) := by decide +kernel
theorem dX2_fill_8 : decode cX2_fill 8 = .ok (.aload_n 0, 1) := by decide +kernel
theorem dX2_fill_9 : decode cX2_fill 9 = .ok (.getfield 9, 3) := by decide +kernel
theorem dX2_fill_12 : decode cX2_fill 12 = .ok (.if_icmp .ge 35, 3) := by decide +kernel
theorem dX2_fill_15 : decode cX2_fill 15 = .ok (.iconst 0, 1) := by decide +kernel
theorem dX2_fill_16 : decode cX2_fill 16 = .ok (.istore 4, 2) := by decide +kernel
theorem dX2_fill_18 : decode cX2_fill 18 = .ok (.iload 4, 2) := by decide +kernel
theorem dX2_fill_20 : decode cX2_fill 20 = .ok (.aload_n 0, 1) := by decide +kernel
theorem dX2_fill_21 : decode cX2_fill 21 = .ok (.getfield 9, 3) := by decide +kernel
theorem dX2_fill_24 : decode cX2_fill 24 = .ok (.if_icmp .ge 17, 3) := by decide +kernel
theorem dX2_fill_27 : decode cX2_fill 27 = .ok (.aload_n 0, 1) := by decide +kernel
theorem dX2_fill_28 : decode cX2_fill 28 = .ok (.iload_n 3, 1) := by decide +kernel
theorem dX2_fill_29 : decode cX2_fill 29 = .ok (.iload 4, 2) := by decide +kernel
theorem dX2_fill_31 : decode cX2_fill 31 = .ok (.iload_n 2, 1) := by decide +kernel
theorem dX2_fill_32 : decode cX2_fill 32 = .ok (.invokevirtual 27, 3) := by decide +kernel
theorem dX2_fill_35 : decode cX2_fill 35 = .ok (.iinc 4 1, 3) := by decide +kernel
theorem dX2_fill_38 : decode cX2_fill 38 = .ok (.goto (-20), 3) := by decide +kernel
theorem dX2_fill_41 : decode cX2_fill 41 = .ok (.iinc 3 1, 3) := by decide +kernel
theorem dX2_fill_44 : decode cX2_fill 44 = .ok (.goto (-37), 3) := by decide +kernel
theorem dX2_fill_47 : decode cX2_fill 47 = .ok (.return_, 1) := by decide +kernel
set_option maxRecDepth 20000 in
theorem ggX2_copy_X2_resize : GoodIn wsX2_copy wsX2_resize := goodIn_r _ [6, 7, 8, 9, 10, 11, 12, 13, 1, 27, 28] (by decide +kernel) (by decide +kernel)
set_option maxRecDepth 20000 in
theorem gX2_copy_X2_resize : GoodIn wsX2_copy (wsV RX2 23 RX2 yX2_resize wsX2_resize) := goodIn_app (goodIn_of _ (by decide +kernel)) ggX2_copy_X2_resize
set_option maxRecDepth 20000 in
theorem ggX2_copy_X2_cell : GoodIn wsX2_copy wsX2_cell := goodIn_r _ [17, 18, 19, 20, 21, 5, 22, 1, 27, 28] (by decide +kernel) (by decide +kernel)
set_option maxRecDepth 20000 in
theorem gX2_copy_X2_cell : GoodIn wsX2_copy (wsV RX2 31 RX2 yX2_cell wsX2_cell) := goodIn_app (goodIn_of _ (by decide +kernel)) ggX2_copy_X2_cell
set_option maxRecDepth 20000 in
theorem ggX2_copy_X2_put : GoodIn wsX2_copy wsX2_put := goodIn_r _ [26, 18, 19, 20, 21, 5, 22, 1, 27, 28] (by decide +kernel) (by decide +kernel)
set_option maxRecDepth 20000 in
theorem gX2_copy_X2_put : GoodIn wsX2_copy (wsV RX2 27 RX2 yX2_put wsX2_put) := goodIn_app (goodIn_of _ (by decide +kernel)) ggX2_copy_X2_put
theorem dX2_copy_0 : decode cX2_copy 0 = .ok (.aload_n 0, 1) := by decide +kernel
theorem dX2_copy_1 : decode cX2_copy 1 = .ok (.aload_n 1, 1) := by decide +kernel
theorem dX2_copy_2 : decode cX2_copy 2 = .ok (.getfield 9, 3) := by decide +kernel
theorem dX2_copy_5 : decode cX2_copy 5 = .ok (.invokevirtual 23, 3) := by decide +kernel
theorem dX2_copy_8 : decode cX2_copy 8 = .ok (.iconst 0, 1) := by decide +kernel
theorem dX2_copy_9 : decode cX2_copy 9 = .ok (.istore_n 2, 1) := by decide +kernel
theorem dX2_copy_10 : decode cX2_copy 10 = .ok (.iload_n 2, 1) := by decide +kernel
theorem dX2_copy_11 : decode cX2_copy 11 = .ok (.aload_n 0, 1) := by decide +kernel
theorem dX2_copy_12 : decode cX2_copy 12 = .ok (.getfield 9, 3) := by decide +kernel
theorem dX2_copy_15 : decode cX2_copy 15 = .ok (.if_icmp .ge 37, 3) := by decide +kernel
theorem dX2_copy_18 : decode cX2_copy 18 = .ok (.iconst 0, 1) := by decide +kernel
theorem dX2_copy_19 : decode cX2_copy 19 = .ok (.istore_n 3, 1) := by decide +kernel
theorem dX2_copy_20 : decode cX2_copy 20 = .ok (.iload_n 3, 1) := by decide +kernel
theorem dX2_copy_21 : decode cX2_copy 21 = .ok (.aload_n 0, 1) := by decide +kernel
theorem dX2_copy_22 : decode cX2_copy 22 = .ok (.getfield 9, 3) := by decide +kernel
theorem dX2_copy_25 : decode cX2_copy 25 = .ok (.if_icmp .ge 21, 3) := by decide +kernel
theorem dX2_copy_28 : decode cX2_copy 28 = .ok (.aload_n 0, 1) := by decide +kernel
theorem dX2_copy_29 : decode cX2_copy 29 = .ok (.iload_n 2, 1) := by decide +kernel
theorem dX2_copy_30 : decode cX2_copy 30 = .ok (.iload_n 3, 1) := by decide +kernel
theorem dX2_copy_31 : decode cX2_copy 31 = .ok (.aload_n 1, 1) := by decide +kernel
theorem dX2_copy_32 : decode cX2_copy 32 = .ok (.iload_n 2, 1) := by decide +kernel
theorem dX2_copy_33 : decode cX2_copy 33 = .ok (.iload_n 3, 1) := by decide +kernel
theorem dX2_copy_34 : decode cX2_copy 34 = .ok (.invokevirtual 31, 3) := by decide +kernel
theorem dX2_copy_37 : decode cX2_copy 37 = .ok (.invokevirtual 27, 3) := by decide +kernel
theorem dX2_copy_40 : decode cX2_copy 40 = .ok (.iinc 3 1, 3) := by decide +kernel
theorem dX2_copy_43 : decode cX2_copy 43 = .ok (.goto (-23), 3) := by decide +kernel
theorem dX2_copy_46 : decode cX2_copy 46 = .ok (.iinc 2 1, 3) := by decide +kernel
theorem dX2_copy_49 : decode cX2_copy 49 = .ok (.goto (-39), 3) := by decide +kernel
theorem dX2_copy_52 : decode cX2_copy 52 = .ok (.return_, 1) := by decide +kernel
set_option maxRecDepth 20000 in
theorem ggX2_transpose_X2_cell : GoodIn wsX2_transpose wsX2_cell := goodIn_r _ [6, 7, 8, 9, 10, 5, 11, 1, 16, 17] (by decide +kernel) (by decide +kernel)
set_option maxRecDepth 20000 in
theorem gX2_transpose_X2_cell : GoodIn wsX2_transpose (wsV RX2 31 RX2 yX2_cell wsX2_cell) := goodIn_app (goodIn_of _ (by decide +kernel)) ggX2_transpose_X2_cell
set_option maxRecDepth 20000 in
theorem ggX2_transpose_X2_put : GoodIn wsX2_transpose wsX2_put := goodIn_r _ [15, 7, 8, 9, 10, 5, 11, 1, 16, 17] (by decide +kernel) (by decide +kernel)
set_option maxRecDepth 20000 in
theorem gX2_transpose_X2_put : GoodIn wsX2_transpose (wsV RX2 27 RX2 yX2_put wsX2_put) := goodIn_app (goodIn_of _ (by decide +kernel)) ggX2_transpose_X2_put
theorem dX2_transpose_0 : decode cX2_transpose 0 = .ok (.iconst 0, 1) := by decide +kernel
theorem dX2_transpose_1 : decode cX2_transpose 1 = .ok (.istore_n 1, 1) := by decide +kernel
theorem dX2_transpose_2 : decode cX2_transpose 2 = .ok (.iload_n 1, 1) := by decide +kernel
theorem dX2_transpose_3 : decode cX2_transpose 3 = .ok (.aload_n 0, 1) := by decide +kernel
theorem dX2_transpose_4 : decode cX2_transpose 4 = .ok (.getfield 9, 3) := by decide +kernel
theorem dX2_transpose_7 : decode cX2_transpose 7 = .ok (.if_icmp .ge 48, 3) := by decide +kernel
theorem dX2_transpose_10 : decode cX2_transpose 10 = .ok (.iconst 0, 1) := by decide +kernel
theorem dX2_transpose_11 : decode cX2_transpose 11 = .ok (.istore_n 2, 1) := by decide +kernel
theorem dX2_transpose_12 : decode cX2_transpose 12 = .ok (.iload_n 2, 1) := by decide +kernel
theorem dX2_transpose_13 : decode cX2_transpose 13 = .ok (.iload_n 1, 1) := by decide +kernel
theorem dX2_transpose_14 : decode cX2_transpose 14 = .ok (.if_icmp .ge 35, 3) := by decide +kernel
theorem dX2_transpose_17 : decode cX2_transpose 17 = .ok (.aload_n 0, 1) := by decide +kernel
theorem dX2_transpose_18 : decode cX2_transpose 18 = .ok (.iload_n 1, 1) := by decide +kernel
theorem dX2_transpose_19 : decode cX2_transpose 19 = .ok (.iload_n 2, 1) := by decide +kernel
theorem dX2_transpose_20 : decode cX2_transpose 20 = .ok (.invokevirtual 31, 3) := by decide +kernel
theorem dX2_transpose_23 : decode cX2_transpose 23 = .ok (.istore_n 3, 1) := by decide +kernel
theorem dX2_transpose_24 : decode cX2_transpose 24 = .ok (.aload_n 0, 1) := by decide +kernel
theorem dX2_transpose_25 : decode cX2_transpose 25 = .ok (.iload_n 1, 1) := by decide +kernel
theorem dX2_transpose_26 : decode cX2_transpose 26 = .ok (.iload_n 2, 1) := by decide +kernel
theorem dX2_transpose_27 : decode cX2_transpose 27 = .ok (.aload_n 0, 1) := by decide +kernel
theorem dX2_transpose_28 : decode cX2_transpose 28 = .ok (.iload_n 2, 1) := by decide +kernel
theorem dX2_transpose_29 : decode cX2_transpose 29 = .ok (.iload_n 1, 1) := by decide +kernel
theorem dX2_transpose_30 : decode cX2_transpose 30 = .ok (.invokevirtual 31, 3) := by decide +kernel
theorem dX2_transpose_33 : decode cX2_transpose 33 = .ok (.invokevirtual 27, 3) := by decide +kernel
theorem dX2_transpose_36 : decode cX2_transpose 36 = .ok (.aload_n 0, 1) := by decide +kernel
theorem dX2_transpose_37 : decode cX2_transpose 37 = .ok (.iload_n 2, 1) := by decide +kernel
theorem dX2_transpose_38 : decode cX2_transpose 38 = .ok (.iload_n 1, 1) := by decide +kernel
theorem dX2_transpose_39 : decode cX2_transpose 39 = .ok (.iload_n 3, 1) := by decide +kernel
theorem dX2_transpose_40 : decode cX2_transpose 40 = .ok (.invokevirtual 27, 3) := by decide +kernel
theorem dX2_transpose_43 : decode cX2_transpose 43 = .ok (.iinc 2 1, 3) := by decide +kernel
theorem dX2_transpose_46 : decode cX2_transpose 46 = .ok (.goto (-34), 3) := by decide +kernel
theorem dX2_transpose_49 : decode cX2_transpose 49 = .ok (.iinc 1 1, 3) := by decide +kernel
theorem dX2_transpose_52 : decode cX2_transpose 52 = .ok (.goto (-50), 3) := by decide +kernel
theorem dX2_transpose_55 : decode cX2_transpose 55 = .ok (.return_, 1) := by decide +kernel
set_option maxRecDepth 20000 in
theorem ggX2_greatestCell_X2_cell : GoodIn wsX2_greatestCell wsX2_cell := goodIn_r _ [10, 11, 12, 13, 14, 9, 15, 1, 16, 17] (by decide +kernel) (by decide +kernel)
set_option maxRecDepth 20000 in
theorem gX2_greatestCell_X2_cell : GoodIn wsX2_greatestCell (wsV RX2 31 RX2 yX2_cell wsX2_cell) := goodIn_app (goodIn_of _ (by decide +kernel)) ggX2_greatestCell_X2_cell
theorem dX2_greatestCell_0 : decode cX2_greatestCell 0 = .ok (.iconst 0, 1) := by decide +kernel
theorem dX2_greatestCell_1 : decode cX2_greatestCell 1 = .ok (.istore_n 1, 1) := by decide +kernel
theorem dX2_greatestCell_2 : decode cX2_greatestCell 2 = .ok (.iconst 0, 1) := by decide +kernel
theorem dX2_greatestCell_3 : decode cX2_greatestCell 3 = .ok (.istore_n 2, 1) := by decide +kernel
theorem dX2_greatestCell_4 : decode cX2_greatestCell 4 = .ok (.iload_n 2, 1) := by decide +kernel
theorem dX2_greatestCell_5 : decode cX2_greatestCell 5 = .ok (.aload_n 0, 1) := by decide +kernel
theorem dX2_greatestCell_6 : decode cX2_greatestCell 6 = .ok (.getfield 9, 3) := by decide +kernel
theorem dX2_greatestCell_9 : decode cX2_greatestCell 9 = .ok (.if_icmp .ge 36, 3) := by decide +kernel
theorem dX2_greatestCell_12 : decode cX2_greatestCell 12 = .ok (.iconst 0, 1) := by decide +kernel
theorem dX2_greatestCell_13 : decode cX2_greatestCell 13 = .ok (.istore_n 3, 1) := by decide +kernel
theorem dX2_greatestCell_14 : decode cX2_greatestCell 14 = .ok (.iload_n 3, 1) := by decide +kernel
theorem dX2_greatestCell_15 : decode cX2_greatestCell 15 = .ok (.aload_n 0, 1) := by decide +kernel
theorem dX2_greatestCell_16 : decode cX2_greatestCell 16 = .ok (.getfield 9, 3) := by decide +kernel
theorem dX2_greatestCell_19 : decode cX2_greatestCell 19 = .ok (.if_icmp .ge 20, 3) := by decide +kernel
theorem dX2_greatestCell_22 : decode cX2_greatestCell 22 = .ok (.iload_n 1, 1) := by decide +kernel
theorem dX2_greatestCell_23 : decode cX2_greatestCell 23 = .ok (.aload_n 0, 1) := by decide +kernel
theorem dX2_greatestCell_24 : decode cX2_greatestCell 24 = .ok (.iload_n 2, 1) := by decide +kernel
theorem dX2_greatestCell_25 : decode cX2_greatestCell 25 = .ok (.iload_n 3, 1) := by decide +kernel
theorem dX2_greatestCell_26 : decode cX2_greatestCell 26 = .ok (.invokevirtual 31, 3) := by decide +kernel
theorem dX2_greatestCell_29 : decode cX2_greatestCell 29 = .ok (.invokestatic 35, 3) := by decide +kernel
theorem dX2_greatestCell_32 : decode cX2_greatestCell 32 = .ok (.istore_n 1, 1) := by decide +kernel
theorem dX2_greatestCell_33 : decode cX2_greatestCell 33 = .ok (.iinc 3 1, 3) := by decide +kernel
theorem dX2_greatestCell_36 : decode cX2_greatestCell 36 = .ok (.goto (-22), 3) := by decide +kernel
theorem dX2_greatestCell_39 : decode cX2_greatestCell 39 = .ok (.iinc 2 1, 3) := by decide +kernel
theorem dX2_greatestCell_42 : decode cX2_greatestCell 42 = .ok (.goto (-38), 3) := by decide +kernel
theorem dX2_greatestCell_45 : decode cX2_greatestCell 45 = .ok (.iload_n 1, 1) := by decide +kernel
theorem dX2_greatestCell_46 : decode cX2_greatestCell 46 = .ok (.ireturn, 1) := by decide +kernel
set_option maxRecDepth 20000 in
theorem ggX2_remove_X2_cell : GoodIn wsX2_remove wsX2_cell := goodIn_r _ [6, 7, 8, 9, 10, 5, 11, 1, 27, 28] (by decide +kernel) (by decide +kernel)
set_option maxRecDepth 20000 in
theorem gX2_remove_X2_cell : GoodIn wsX2_remove (wsV RX2 31 RX2 yX2_cell wsX2_cell) := goodIn_app (goodIn_of _ (by decide +kernel)) ggX2_remove_X2_cell
set_option maxRecDepth 20000 in
theorem ggX2_remove_X2_put : GoodIn wsX2_remove wsX2_put := goodIn_r _ [15, 7, 8, 9, 10, 5, 11, 1, 27, 28] (by decide +kernel) (by decide +kernel)
set_option maxRecDepth 20000 in
theorem gX2_remove_X2_put : GoodIn wsX2_remove (wsV RX2 27 RX2 yX2_put wsX2_put) := goodIn_app (goodIn_of _ (by decide +kernel)) ggX2_remove_X2_put
set_option maxRecDepth 20000 in
theorem ggX2_remove_X2_resize : GoodIn wsX2_remove wsX2_resize := goodIn_r _ [19, 20, 21, 22, 23, 24, 25, 26, 1, 27, 28] (by decide +kernel) (by decide +kernel)
set_option maxRecDepth 20000 in
theorem gX2_remove_X2_resize : GoodIn wsX2_remove (wsV RX2 23 RX2 yX2_resize wsX2_resize) := goodIn_app (goodIn_of _ (by decide +kernel)) ggX2_remove_X2_resize
theorem dX2_remove_0 : decode cX2_remove 0 = .ok (.iconst 0, 1) := by decide +kernel
theorem dX2_remove_1 : decode cX2_remove 1 = .ok (.istore_n 2, 1) := by decide +kernel
theorem dX2_remove_2 : decode cX2_remove 2 = .ok (.iload_n 2, 1) := by decide +kernel
theorem dX2_remove_3 : decode cX2_remove 3 = .ok (.aload_n 0, 1) := by decide +kernel
theorem dX2_remove_4 : decode cX2_remove 4 = .ok (.getfield 9, 3) := by decide +kernel
theorem dX2_remove_7 : decode cX2_remove 7 = .ok (.iconst 1, 1) := by decide +kernel
theorem dX2_remove_8 : decode cX2_remove 8 = .ok (.isub, 1) := by decide +kernel
theorem dX2_remove_9 : decode cX2_remove 9 = .ok (.if_icmp .ge 69, 3) := by decide +kernel
theorem dX2_remove_12 : decode cX2_remove 12 = .ok (.iconst 0, 1) := by decide +kernel
theorem dX2_remove_13 : decode cX2_remove 13 = .ok (.istore_n 3, 1) := by decide +kernel
theorem dX2_remove_14 : decode cX2_remove 14 = .ok (.iload_n 3, 1) := by decide +kernel
theorem dX2_remove_15 : decode cX2_remove 15 = .ok (.aload_n 0, 1) := by decide +kernel
theorem dX2_remove_16 : decode cX2_remove 16 = .ok (.getfield 9, 3) := by decide +kernel
theorem dX2_remove_19 : decode cX2_remove 19 = .ok (.iconst 1, 1) := by decide +kernel
theorem dX2_remove_20 : decode cX2_remove 20 = .ok (.isub, 1) := by decide +kernel
theorem dX2_remove_21 : decode cX2_remove 21 = .ok (.if_icmp .ge 51, 3) := by decide +kernel
theorem dX2_remove_24 : decode cX2_remove 24 = .ok (.iload_n 2, 1) := by decide +kernel
theorem dX2_remove_25 : decode cX2_remove 25 = .ok (.iload_n 1, 1) := by decide +kernel
theorem dX2_remove_26 : decode cX2_remove 26 = .ok (.if_icmp .ge 7, 3) := by decide +kernel
theorem dX2_remove_29 : decode cX2_remove 29 = .ok (.iload_n 2, 1) := by decide +kernel
theorem dX2_remove_30 : decode cX2_remove 30 = .ok (.goto 6, 3) := by decide +kernel
theorem dX2_remove_33 : decode cX2_remove 33 = .ok (.iload_n 2, 1) := by decide +kernel
theorem dX2_remove_34 : decode cX2_remove 34 = .ok (.iconst 1, 1) := by decide +kernel
theorem dX2_remove_35 : decode cX2_remove 35 = .ok (.iadd, 1) := by decide +kernel
theorem dX2_remove_36 : decode cX2_remove 36 = .ok (.istore 4, 2) := by decide +kernel
theorem dX2_remove_38 : decode cX2_remove 38 = .ok (.iload_n 3, 1) := by decide +kernel
theorem dX2_remove_39 : decode cX2_remove 39 = .ok (.iload_n 1, 1) := by decide +kernel
theorem dX2_remove_40 : decode cX2_remove 40 = .ok (.if_icmp .ge 7, 3) := by decide +kernel
theorem dX2_remove_43 : decode cX2_remove 43 = .ok (.iload_n 3, 1) := by decide +kernel
theorem dX2_remove_44 : decode cX2_remove 44 = .ok (.goto 6, 3) := by decide +kernel
theorem dX2_remove_47 : decode cX2_remove 47 = .ok (.iload_n 3, 1) := by decide +kernel
theorem dX2_remove_48 : decode cX2_remove 48 = .ok (.iconst 1, 1) := by decide +kernel
theorem dX2_remove_49 : decode cX2_remove 49 = .ok (.iadd, 1) := by decide +kernel
theorem dX2_remove_50 : decode cX2_remove 50 = .ok (.istore 5, 2) := by decide +kernel
theorem dX2_remove_52 : decode cX2_remove 52 = .ok (.aload_n 0, 1) := by decide +kernel
theorem dX2_remove_53 : decode cX2_remove 53 = .ok (.iload_n 2, 1) := by decide +kernel
theorem dX2_remove_54 : decode cX2_remove 54 = .ok (.iload_n 3, 1) := by decide +kernel
theorem dX2_remove_55 : decode cX2_remove 55 = .ok (.aload_n 0, 1) := by decide +kernel
theorem dX2_remove_56 : decode cX2_remove 56 = .ok (.iload 4, 2) := by decide +kernel
theorem dX2_remove_58 : decode cX2_remove 58 = .ok (.iload 5, 2) := by decide +kernel
theorem dX2_remove_60 : decode cX2_remove 60 = .ok (.invokevirtual 31, 3) := by decide +kernel
theorem dX2_remove_63 : decode cX2_remove 63 = .ok (.invokevirtual 27, 3) := by decide +kernel
theorem dX2_remove_66 : decode cX2_remove 66 = .ok (.iinc 3 1, 3) := by decide +kernel
theorem dX2_remove_69 : decode cX2_remove 69 = .ok (.goto (-55), 3) := by decide +kernel
theorem dX2_remove_72 : decode cX2_remove 72 = .ok (.iinc 2 1, 3) := by decide +kernel
theorem dX2_remove_75 : decode cX2_remove 75 = .ok (.goto (-73), 3) := by decide +kernel
theorem dX2_remove_78 : decode cX2_remove 78 = .ok (.aload_n 0, 1) := by decide +kernel
theorem dX2_remove_79 : decode cX2_remove 79 = .ok (.aload_n 0, 1) := by decide +kernel
theorem dX2_remove_80 : decode cX2_remove 80 = .ok (.getfield 9, 3) := by decide +kernel
theorem dX2_remove_83 : decode cX2_remove 83 = .ok (.iconst 1, 1) := by decide +kernel
theorem dX2_remove_84 : decode cX2_remove 84 = .ok (.isub, 1) := by decide +kernel
theorem dX2_remove_85 : decode cX2_remove 85 = .ok (.invokevirtual 23, 3) := by decide +kernel
theorem dX2_remove_88 : decode cX2_remove 88 = .ok (.return_, 1) := by decide +kernel
set_option maxRecDepth 20000 in
theorem ggX2_splitRow_X2_resize : GoodIn wsX2_splitRow wsX2_resize := goodIn_r _ [6, 7, 8, 9, 10, 11, 12, 13, 1, 27, 28] (by decide +kernel) (by decide +kernel)
set_option maxRecDepth 20000 in
theorem gX2_splitRow_X2_resize : GoodIn wsX2_splitRow (wsV RX2 23 RX2 yX2_resize wsX2_resize) := goodIn_app (goodIn_of _ (by decide +kernel)) ggX2_splitRow_X2_resize
set_option maxRecDepth 20000 in
theorem ggX2_splitRow_X2_cell : GoodIn wsX2_splitRow wsX2_cell := goodIn_r _ [17, 18, 19, 20, 21, 5, 22, 1, 27, 28] (by decide +kernel) (by decide +kernel)
set_option maxRecDepth 20000 in
theorem gX2_splitRow_X2_cell : GoodIn wsX2_splitRow (wsV RX2 31 RX2 yX2_cell wsX2_cell) := goodIn_app (goodIn_of _ (by decide +kernel)) ggX2_splitRow_X2_cell
set_option maxRecDepth 20000 in
theorem ggX2_splitRow_X2_put : GoodIn wsX2_splitRow wsX2_put := goodIn_r _ [26, 18, 19, 20, 21, 5, 22, 1, 27, 28] (by decide +kernel) (by decide +kernel)
set_option maxRecDepth 20000 in
theorem gX2_splitRow_X2_put : GoodIn wsX2_splitRow (wsV RX2 27 RX2 yX2_put wsX2_put) := goodIn_app (goodIn_of _ (by decide +kernel)) ggX2_splitRow_X2_put
theorem dX2_splitRow_0 : decode cX2_splitRow 0 = .ok (.aload_n 0, 1) := by decide +kernel
theorem dX2_splitRow_1 : decode cX2_splitRow 1 = .ok (.getfield 9, 3) := by decide +kernel
theorem dX2_splitRow_4 : decode cX2_splitRow 4 = .ok (.istore_n 3, 1) := by decide +kernel
theorem dX2_splitRow_5 : decode cX2_splitRow 5 = .ok (.aload_n 0, 1) := by decide +kernel
theorem dX2_splitRow_6 : decode cX2_splitRow 6 = .ok (.aload_n 0, 1) := by decide +kernel
theorem dX2_splitRow_7 : decode cX2_splitRow 7 = .ok (.getfield 9, 3) := by decide +kernel
theorem dX2_splitRow_10 : decode cX2_splitRow 10 = .ok (.iconst 1, 1) := by decide +kernel
theorem dX2_splitRow_11 : decode cX2_splitRow 11 = .ok (.iadd, 1) := by decide +kernel
theorem dX2_splitRow_12 : decode cX2_splitRow 12 = .ok (.invokevirtual 23, 3) := by decide +kernel
theorem dX2_splitRow_15 : decode cX2_splitRow 15 = .ok (.iconst 0, 1) := by decide +kernel
theorem dX2_splitRow_16 : decode cX2_splitRow 16 = .ok (.istore 4, 2) := by decide +kernel
theorem dX2_splitRow_18 : decode cX2_splitRow 18 = .ok (.iload 4, 2) := by decide +kernel
theorem dX2_splitRow_20 : decode cX2_splitRow 20 = .ok (.iload_n 3, 1) := by decide +kernel
theorem dX2_splitRow_21 : decode cX2_splitRow 21 = .ok (.if_icmp .ge 46, 3) := by decide +kernel
theorem dX2_splitRow_24 : decode cX2_splitRow 24 = .ok (.iload 4, 2) := by decide +kernel
theorem dX2_splitRow_26 : decode cX2_splitRow 26 = .ok (.aload_n 2, 1) := by decide +kernel
theorem dX2_splitRow_27 : decode cX2_splitRow 27 = .ok (.arraylength, 1) := by decide +kernel
theorem dX2_splitRow_28 : decode cX2_splitRow 28 = .ok (.if_icmp .ge 39, 3) := by decide +kernel
theorem dX2_splitRow_31 : decode cX2_splitRow 31 = .ok (.aload_n 0, 1) := by decide +kernel
theorem dX2_splitRow_32 : decode cX2_splitRow 32 = .ok (.iload_n 1, 1) := by decide +kernel
theorem dX2_splitRow_33 : decode cX2_splitRow 33 = .ok (.iload 4, 2) := by decide +kernel
theorem dX2_splitRow_35 : decode cX2_splitRow 35 = .ok (.aload_n 0, 1) := by decide +kernel
theorem dX2_splitRow_36 : decode cX2_splitRow 36 = .ok (.iload_n 1, 1) := by decide +kernel
theorem dX2_splitRow_37 : decode cX2_splitRow 37 = .ok (.iload 4, 2) := by decide +kernel
theorem dX2_splitRow_39 : decode cX2_splitRow 39 = .ok (.invokevirtual 31, 3) := by decide +kernel
theorem dX2_splitRow_42 : decode cX2_splitRow 42 = .ok (.aload_n 2, 1) := by decide +kernel
theorem dX2_splitRow_43 : decode cX2_splitRow 43 = .ok (.iload 4, 2) := by decide +kernel
theorem dX2_splitRow_45 : decode cX2_splitRow 45 = .ok (.iaload, 1) := by decide +kernel
theorem dX2_splitRow_46 : decode cX2_splitRow 46 = .ok (.isub, 1) := by decide +kernel
theorem dX2_splitRow_47 : decode cX2_splitRow 47 = .ok (.invokevirtual 27, 3) := by decide +kernel
theorem dX2_splitRow_50 : decode cX2_splitRow 50 = .ok (.aload_n 0, 1) := by decide +kernel
theorem dX2_splitRow_51 : decode cX2_splitRow 51 = .ok (.iload_n 3, 1) := by decide +kernel
theorem dX2_splitRow_52 : decode cX2_splitRow 52 = .ok (.iload 4, 2) := by decide +kernel
theorem dX2_splitRow_54 : decode cX2_splitRow 54 = .ok (.aload_n 2, 1) := by decide +kernel
theorem dX2_splitRow_55 : decode cX2_splitRow 55 = .ok (.iload 4, 2) := by decide +kernel
theorem dX2_splitRow_57 : decode cX2_splitRow 57 = .ok (.iaload, 1) := by decide +kernel
theorem dX2_splitRow_58 : decode cX2_splitRow 58 = .ok (.invokevirtual 27, 3) := by decide +kernel
theorem dX2_splitRow_61 : decode cX2_splitRow 61 = .ok (.iinc 4 1, 3) := by decide +kernel
theorem dX2_splitRow_64 : decode cX2_splitRow 64 = .ok (.goto (-46), 3) := by decide +kernel
theorem dX2_splitRow_67 : decode cX2_splitRow 67 = .ok (.iconst 0, 1) := by decide +kernel
theorem dX2_splitRow_68 : decode cX2_splitRow 68 = .ok (.istore 4, 2) := by decide +kernel
theorem dX2_splitRow_70 : decode cX2_splitRow 70 = .ok (.iload 4, 2) := by decide +kernel
theorem dX2_splitRow_72 : decode cX2_splitRow 72 = .ok (.aload_n 0, 1) := by decide +kernel
theorem dX2_splitRow_73 : decode cX2_splitRow 73 = .ok (.getfield 9, 3) := by decide +kernel
theorem dX2_splitRow_76 : decode cX2_splitRow 76 = .ok (.if_icmp .ge 23, 3) := by decide +kernel
theorem dX2_splitRow_79 : decode cX2_splitRow 79 = .ok (.aload_n 0, 1) := by decide +kernel
theorem dX2_splitRow_80 : decode cX2_splitRow 80 = .ok (.iload 4, 2) := by decide +kernel
theorem dX2_splitRow_82 : decode cX2_splitRow 82 = .ok (.iload_n 3, 1) := by decide +kernel
theorem dX2_splitRow_83 : decode cX2_splitRow 83 = .ok (.aload_n 0, 1) := by decide +kernel
theorem dX2_splitRow_84 : decode cX2_splitRow 84 = .ok (.iload 4, 2) := by decide +kernel
theorem dX2_splitRow_86 : decode cX2_splitRow 86 = .ok (.iload_n 1, 1) := by decide +kernel
theorem dX2_splitRow_87 : decode cX2_splitRow 87 = .ok (.invokevirtual 31, 3) := by decide +kernel
theorem dX2_splitRow_90 : decode cX2_splitRow 90 = .ok (.invokevirtual 27, 3) := by decide +kernel
theorem dX2_splitRow_93 : decode cX2_splitRow 93 = .ok (.iinc 4 1, 3) := by decide +kernel
theorem dX2_splitRow_96 : decode cX2_splitRow 96 = .ok (.goto (-26), 3) := by decide +kernel
theorem dX2_splitRow_99 : decode cX2_splitRow 99 = .ok (.return_, 1) := by decide +kernel
set_option maxRecDepth 20000 in
theorem ggX2_columnsAreEqual_X2_cell : GoodIn wsX2_columnsAreEqual wsX2_cell := goodIn_r _ [6, 7, 8, 9, 10, 5, 11, 1, 12, 13] (by decide +kernel) (by decide +kernel)
set_option maxRecDepth 20000 in
theorem gX2_columnsAreEqual_X2_cell : GoodIn wsX2_columnsAreEqual (wsV RX2 31 RX2 yX2_cell wsX2_cell) := goodIn_app (goodIn_of _ (by decide +kernel)) ggX2_columnsAreEqual_X2_cell
theorem dX2_columnsAreEqual_0 : decode cX2_columnsAreEqual 0 = .ok (.iconst 0, 1) := by decide +kernel
theorem dX2_columnsAreEqual_1 : decode cX2_columnsAreEqual 1 = .ok (.istore_n 3, 1) := by decide +kernel
theorem dX2_columnsAreEqual_2 : decode cX2_columnsAreEqual 2 = .ok (.iload_n 3, 1) := by decide +kernel
theorem dX2_columnsAreEqual_3 : decode cX2_columnsAreEqual 3 = .ok (.aload_n 0, 1) := by decide +kernel
theorem dX2_columnsAreEqual_4 : decode cX2_columnsAreEqual 4 = .ok (.getfield 9, 3) := by decide +kernel
theorem dX2_columnsAreEqual_7 : decode cX2_columnsAreEqual 7 = .ok (.if_icmp .ge 26, 3) := by decide +kernel
theorem dX2_columnsAreEqual_10 : decode cX2_columnsAreEqual 10 = .ok (.aload_n 0, 1) := by decide +kernel
theorem dX2_columnsAreEqual_11 : decode cX2_columnsAreEqual 11 = .ok (.iload_n 3, 1) := by decide +kernel
theorem dX2_columnsAreEqual_12 : decode cX2_columnsAreEqual 12 = .ok (.iload_n 1, 1) := by decide +kernel
theorem dX2_columnsAreEqual_13 : decode cX2_columnsAreEqual 13 = .ok (.invokevirtual 31, 3) := by decide +kernel
theorem dX2_columnsAreEqual_16 : decode cX2_columnsAreEqual 16 = .ok (.aload_n 0, 1) := by decide +kernel
theorem dX2_columnsAreEqual_17 : decode cX2_columnsAreEqual 17 = .ok (.iload_n 3, 1) := by decide +kernel
theorem dX2_columnsAreEqual_18 : decode cX2_columnsAreEqual 18 = .ok (.iload_n 2, 1) := by decide +kernel
theorem dX2_columnsAreEqual_19 : decode cX2_columnsAreEqual 19 = .ok (.invokevirtual 31, 3) := by decide +kernel
theorem dX2_columnsAreEqual_22 : decode cX2_columnsAreEqual 22 = .ok (.if_icmp .eq 5, 3) := by decide +kernel
theorem dX2_columnsAreEqual_25 : decode cX2_columnsAreEqual 25 = .ok (.iconst 0, 1) := by decide +kernel
theorem dX2_columnsAreEqual_26 : decode cX2_columnsAreEqual 26 = .ok (.ireturn, 1) := by decide +kernel
theorem dX2_columnsAreEqual_27 : decode cX2_columnsAreEqual 27 = .ok (.iinc 3 1, 3) := by decide +kernel
theorem dX2_columnsAreEqual_30 : decode cX2_columnsAreEqual 30 = .ok (.goto (-28), 3) := by decide +kernel
theorem dX2_columnsAreEqual_33 : decode cX2_columnsAreEqual 33 = .ok (.iconst 1, 1) := by decide +kernel
theorem dX2_columnsAreEqual_34 : decode cX2_columnsAreEqual 34 = .ok (.ireturn, 1) := by decide +kernel
set_option maxRecDepth 20000 in
theorem ggX2_mergeRows_X2_cell : GoodIn wsX2_mergeRows wsX2_cell := goodIn_r _ [6, 7, 8, 9, 10, 5, 11, 1, 31, 32] (by decide +kernel) (by decide +kernel)
set_option maxRecDepth 20000 in
theorem gX2_mergeRows_X2_cell : GoodIn wsX2_mergeRows (wsV RX2 31 RX2 yX2_cell wsX2_cell) := goodIn_app (goodIn_of _ (by decide +kernel)) ggX2_mergeRows_X2_cell
set_option maxRecDepth 20000 in
theorem ggX2_mergeRows_X2_put : GoodIn wsX2_mergeRows wsX2_put := goodIn_r _ [15, 7, 8, 9, 10, 5, 11, 1, 31, 32] (by decide +kernel) (by decide +kernel)
set_option maxRecDepth 20000 in
theorem gX2_mergeRows_X2_put : GoodIn wsX2_mergeRows (wsV RX2 27 RX2 yX2_put wsX2_put) := goodIn_app (goodIn_of _ (by decide +kernel)) ggX2_mergeRows_X2_put
set_option maxRecDepth 20000 in
theorem ggX2_mergeRows_X2_remove : GoodIn wsX2_mergeRows wsX2_remove := goodIn_r _ [19, 1, 2, 3, 4, 5, 6, 7, 8, 9, 10, 11, 12, 13, 14, 15, 20, 21, 22, 23, 24, 25, 26, 27, 28, 29, 30, 31, 32] (by decide +kernel) (by decide +kernel)
set_option maxRecDepth 20000 in
theorem gX2_mergeRows_X2_remove : GoodIn wsX2_mergeRows (wsV RX2 40 RX2 yX2_remove wsX2_remove) := goodIn_app (goodIn_of _ (by decide +kernel)) ggX2_mergeRows_X2_remove
theorem dX2_mergeRows_0 : decode cX2_mergeRows 0 = .ok (.iconst 0, 1) := by decide +kernel
theorem dX2_mergeRows_1 : decode cX2_mergeRows 1 = .ok (.istore_n 3, 1) := by decide +kernel
theorem dX2_mergeRows_2 : decode cX2_mergeRows 2 = .ok (.iload_n 3, 1) := by decide +kernel
theorem dX2_mergeRows_3 : decode cX2_mergeRows 3 = .ok (.aload_n 0, 1) := by decide +kernel
theorem dX2_mergeRows_4 : decode cX2_mergeRows 4 = .ok (.getfield 9, 3) := by decide +kernel
theorem dX2_mergeRows_7 : decode cX2_mergeRows 7 = .ok (.if_icmp .ge 28, 3) := by decide +kernel
theorem dX2_mergeRows_10 : decode cX2_mergeRows 10 = .ok (.aload_n 0, 1) := by decide +kernel
theorem dX2_mergeRows_11 : decode cX2_mergeRows 11 = .ok (.iload_n 1, 1) := by decide +kernel
theorem dX2_mergeRows_12 : decode cX2_mergeRows 12 = .ok (.iload_n 3, 1) := by decide +kernel
theorem dX2_mergeRows_13 : decode cX2_mergeRows 13 = .ok (.aload_n 0, 1) := by decide +kernel
theorem dX2_mergeRows_14 : decode cX2_mergeRows 14 = .ok (.iload_n 1, 1) := by decide +kernel
theorem dX2_mergeRows_15 : decode cX2_mergeRows 15 = .ok (.iload_n 3, 1) := by decide +kernel
theorem dX2_mergeRows_16 : decode cX2_mergeRows 16 = .ok (.invokevirtual 31, 3) := by decide +kernel
theorem dX2_mergeRows_19 : decode cX2_mergeRows 19 = .ok (.aload_n 0, 1) := by decide +kernel
theorem dX2_mergeRows_20 : decode cX2_mergeRows 20 = .ok (.iload_n 2, 1) := by decide +kernel
theorem dX2_mergeRows_21 : decode cX2_mergeRows 21 = .ok (.iload_n 3, 1) := by decide +kernel
theorem dX2_mergeRows_22 : decode cX2_mergeRows 22 = .ok (.invokevirtual 31, 3) := by decide +kernel
theorem dX2_mergeRows_25 : decode cX2_mergeRows 25 = .ok (.iadd, 1) := by decide +kernel
theorem dX2_mergeRows_26 : decode cX2_mergeRows 26 = .ok (.invokevirtual 27, 3) := by decide +kernel
theorem dX2_mergeRows_29 : decode cX2_mergeRows 29 = .ok (.iinc 3 1, 3) := by decide +kernel
theorem dX2_mergeRows_32 : decode cX2_mergeRows 32 = .ok (.goto (-30), 3) := by decide +kernel
theorem dX2_mergeRows_35 : decode cX2_mergeRows 35 = .ok (.aload_n 0, 1) := by decide +kernel
theorem dX2_mergeRows_36 : decode cX2_mergeRows 36 = .ok (.iload_n 2, 1) := by decide +kernel
theorem dX2_mergeRows_37 : decode cX2_mergeRows 37 = .ok (.invokevirtual 40, 3) := by decide +kernel
theorem dX2_mergeRows_40 : decode cX2_mergeRows 40 = .ok (.return_, 1) := by decide +kernel
set_option maxRecDepth 20000 in
theorem ggX2_mergeSomeEqualColumns_X2_columnsAreEqual : GoodIn wsX2_mergeSomeEqualColumns wsX2_columnsAreEqual := goodIn_r _ [6, 1, 7, 8, 9, 5, 10, 11, 12, 13, 14, 15, 39, 40] (by decide +kernel) (by decide +kernel)
set_option maxRecDepth 20000 in
theorem gX2_mergeSomeEqualColumns_X2_columnsAreEqual : GoodIn wsX2_mergeSomeEqualColumns (wsV RX2 43 RX2 yX2_columnsAreEqual wsX2_columnsAreEqual) := goodIn_app (goodIn_of _ (by decide +kernel)) ggX2_mergeSomeEqualColumns_X2_columnsAreEqual
set_option maxRecDepth 20000 in
theorem ggX2_mergeSomeEqualColumns_X2_mergeRows : GoodIn wsX2_mergeSomeEqualColumns wsX2_mergeRows := goodIn_r _ [19, 1, 7, 8, 9, 5, 10, 11, 12, 13, 14, 15, 20, 21, 22, 23, 24, 25, 26, 27, 28, 29, 30, 31, 32, 33, 34, 35, 36, 37, 38, 39, 40] (by decide +kernel) (by decide +kernel)
set_option maxRecDepth 20000 in
theorem gX2_mergeSomeEqualColumns_X2_mergeRows : GoodIn wsX2_mergeSomeEqualColumns (wsV RX2 47 RX2 yX2_mergeRows wsX2_mergeRows) := goodIn_app (goodIn_of _ (by decide +kernel)) ggX2_mergeSomeEqualColumns_X2_mergeRows
theorem dX2_mergeSomeEqualColumns_0 : decode cX2_mergeSomeEqualColumns 0 = .ok (.iconst 1, 1) := by decide +kernel
theorem dX2_mergeSomeEqualColumns_1 : decode cX2_mergeSomeEqualColumns 1 = .ok (.istore_n 1, 1) := by decide +kernel
theorem dX2_mergeSomeEqualColumns_2 : decode cX2_mergeSomeEqualColumns 2 = .ok (.iload_n 1, 1) := by decide +kernel
theorem dX2_mergeSomeEqualColumns_3 : decode cX2_mergeSomeEqualColumns 3 = .ok (.aload_n 0, 1) := by decide +kernel
theorem dX2_mergeSomeEqualColumns_4 : decode cX2_mergeSomeEqualColumns 4 = .ok (.getfield 9, 3) := by decide +kernel
theorem dX2_mergeSomeEqualColumns_7 : decode cX2_mergeSomeEqualColumns 7 = .ok (.if_icmp .ge 39, 3) := by decide +kernel
theorem dX2_mergeSomeEqualColumns_10 : decode cX2_mergeSomeEqualColumns 10 = .ok (.iconst 0, 1) := by decide +kernel
theorem dX2_mergeSomeEqualColumns_11 : decode cX2_mergeSomeEqualColumns 11 = .ok (.istore_n 2, 1) := by decide +kernel
theorem dX2_mergeSomeEqualColumns_12 : decode cX2_mergeSomeEqualColumns 12 = .ok (.iload_n 2, 1) := by decide +kernel
theorem dX2_mergeSomeEqualColumns_13 : decode cX2_mergeSomeEqualColumns 13 = .ok (.iload_n 1, 1) := by decide +kernel
theorem dX2_mergeSomeEqualColumns_14 : decode cX2_mergeSomeEqualColumns 14 = .ok (.if_icmp .ge 26, 3) := by decide +kernel
theorem dX2_mergeSomeEqualColumns_17 : decode cX2_mergeSomeEqualColumns 17 = .ok (.aload_n 0, 1) := by decide +kernel
theorem dX2_mergeSomeEqualColumns_18 : decode cX2_mergeSomeEqualColumns 18 = .ok (.iload_n 2, 1) := by decide +kernel
theorem dX2_mergeSomeEqualColumns_19 : decode cX2_mergeSomeEqualColumns 19 = .ok (.iload_n 1, 1) := by decide +kernel
theorem dX2_mergeSomeEqualColumns_20 : decode cX2_mergeSomeEqualColumns 20 = .ok (.invokevirtual 43, 3) := by decide +kernel
theorem dX2_mergeSomeEqualColumns_23 : decode cX2_mergeSomeEqualColumns 23 = .ok (.ifCond .eq 11, 3) := by decide +kernel
theorem dX2_mergeSomeEqualColumns_26 : decode cX2_mergeSomeEqualColumns 26 = .ok (.aload_n 0, 1) := by decide +kernel
theorem dX2_mergeSomeEqualColumns_27 : decode cX2_mergeSomeEqualColumns 27 = .ok (.iload_n 2, 1) := by decide +kernel
theorem dX2_mergeSomeEqualColumns_28 : decode cX2_mergeSomeEqualColumns 28 = .ok (.iload_n 1, 1) := by decide +kernel
theorem dX2_mergeSomeEqualColumns_29 : decode cX2_mergeSomeEqualColumns 29 = .ok (.invokevirtual 47, 3) := by decide +kernel
theorem dX2_mergeSomeEqualColumns_32 : decode cX2_mergeSomeEqualColumns 32 = .ok (.iconst 1, 1) := by decide +kernel
theorem dX2_mergeSomeEqualColumns_33 : decode cX2_mergeSomeEqualColumns 33 = .ok (.ireturn, 1) := by decide +kernel
theorem dX2_mergeSomeEqualColumns_34 : decode cX2_mergeSomeEqualColumns 34 = .ok (.iinc 2 1, 3) := by decide +kernel
theorem dX2_mergeSomeEqualColumns_37 : decode cX2_mergeSomeEqualColumns 37 = .ok (.goto (-25), 3) := by decide +kernel
theorem dX2_mergeSomeEqualColumns_40 : decode cX2_mergeSomeEqualColumns 40 = .ok (.iinc 1 1, 3) := by decide +kernel
theorem dX2_mergeSomeEqualColumns_43 : decode cX2_mergeSomeEqualColumns 43 = .ok (.goto (-41), 3) := by decide +kernel
theorem dX2_mergeSomeEqualColumns_46 : decode cX2_mergeSomeEqualColumns 46 = .ok (.iconst 0, 1) := by decide +kernel
theorem dX2_mergeSomeEqualColumns_47 : decode cX2_mergeSomeEqualColumns 47 = .ok (.ireturn, 1) := by decide +kernel
theorem dX2_resize_0 : decode cX2_resize 0 = .ok (.aload_n 0, 1) := by decide +kernel
theorem dX2_resize_1 : decode cX2_resize 1 = .ok (.iconst 1, 1) := by decide +kernel
theorem dX2_resize_2 : decode cX2_resize 2 = .ok (.iload_n 1, 1) := by decide +kernel
theorem dX2_resize_3 : decode cX2_resize 3 = .ok (.bipush 6, 2) := by decide +kernel
theorem dX2_resize_5 : decode cX2_resize 5 = .ok (.invokestatic 51, 3) := by decide +kernel
theorem dX2_resize_8 : decode cX2_resize 8 = .ok (.invokestatic 35, 3) := by decide +kernel
theorem dX2_resize_11 : decode cX2_resize 11 = .ok (.putfield 9, 3) := by decide +kernel
theorem dX2_resize_14 : decode cX2_resize 14 = .ok (.return_, 1) := by decide +kernel
theorem dX3_init_0 : decode cX3_init 0 = .ok (.aload_n 0, 1) := by decide +kernel
theorem dX3_init_1 : decode cX3_init 1 = .ok (.invokespecial 3, 3) := by decide +kernel
theorem dX3_init_4 : decode cX3_init 4 = .ok (.aload_n 0, 1) := by decide +kernel
theorem dX3_init_5 : decode cX3_init 5 = .ok (.iconst 1, 1) := by decide +kernel
theorem dX3_init_6 : decode cX3_init 6 = .ok (.putfield 9, 3) := by decide +kernel
theorem dX3_init_9 : decode cX3_init 9 = .ok (.aload_n 0, 1) := by decide +kernel
theorem dX3_init_10 : decode cX3_init 10 = .ok (.bipush 36, 2) := by decide +kernel
theorem dX3_init_12 : decode cX3_init 12 = .ok (.newarray .long, 2) := by decide +kernel
theorem dX3_init_14 : decode cX3_init 14 = .ok (.putfield 15, 3) := by decide +kernel
theorem dX3_init_17 : decode cX3_init 17 = .ok (.aload_n 0, 1) := by decide +kernel
theorem dX3_init_18 : decode cX3_init 18 = .ok (.bipush 6, 2) := by decide +kernel
theorem dX3_init_20 : decode cX3_init 20 = .ok (.newarray .int, 2) := by decide +kernel
theorem dX3_init_22 : decode cX3_init 22 = .ok (.putfield 19, 3) := by decide +kernel
theorem dX3_init_25 : decode cX3_init 25 = .ok (.aload_n 0, 1) := by decide +kernel
theorem dX3_init_26 : decode cX3_init 26 = .ok (.bipush 64, 2) := by decide +kernel
theorem dX3_init_28 : decode cX3_init 28 = .ok (.newarray .long, 2) := by decide +kernel
theorem dX3_init_30 : decode cX3_init 30 = .ok (.putfield 23, 3) := by decide +kernel
theorem dX3_init_33 : decode cX3_init 33 = .ok (.return_, 1) := by decide +kernel
set_option maxRecDepth 20000 in
theorem ggX3_take_X2_order : GoodIn wsX3_take wsX2_order := goodIn_r _ [7, 8, 22, 23] (by decide +kernel) (by decide +kernel)
set_option maxRecDepth 20000 in
theorem gX3_take_X2_order : GoodIn wsX3_take (wsV RX3 26 RX2 yX2_order wsX2_order) := goodIn_app (goodIn_of _ (by decide +kernel)) ggX3_take_X2_order
set_option maxRecDepth 20000 in
theorem ggX3_take_X2_cell : GoodIn wsX3_take wsX2_cell := goodIn_r _ [12, 13, 14, 15, 16, 6, 17, 8, 22, 23] (by decide +kernel) (by decide +kernel)
set_option maxRecDepth 20000 in
theorem gX3_take_X2_cell : GoodIn wsX3_take (wsV RX3 31 RX2 yX2_cell wsX2_cell) := goodIn_app (goodIn_of _ (by decide +kernel)) ggX3_take_X2_cell
theorem dX3_take_0 : decode cX3_take 0 = .ok (.aload_n 0, 1) := by decide +kernel
theorem dX3_take_1 : decode cX3_take 1 = .ok (.aload_n 1, 1) := by decide +kernel
theorem dX3_take_2 : decode cX3_take 2 = .ok (.invokevirtual 26, 3) := by decide +kernel
theorem dX3_take_5 : decode cX3_take 5 = .ok (.putfield 9, 3) := by decide +kernel
theorem dX3_take_8 : decode cX3_take 8 = .ok (.iconst 0, 1) := by decide +kernel
theorem dX3_take_9 : decode cX3_take 9 = .ok (.istore 6, 2) := by decide +kernel
theorem dX3_take_11 : decode cX3_take 11 = .ok (.iload 6, 2) := by decide +kernel
theorem dX3_take_13 : decode cX3_take 13 = .ok (.bipush 6, 2) := by decide +kernel
theorem dX3_take_15 : decode cX3_take 15 = .ok (.if_icmp .ge 67, 3) := by decide +kernel
theorem dX3_take_18 : decode cX3_take 18 = .ok (.iconst 0, 1) := by decide +kernel
theorem dX3_take_19 : decode cX3_take 19 = .ok (.istore 7, 2) := by decide +kernel
theorem dX3_take_21 : decode cX3_take 21 = .ok (.iload 7, 2) := by decide +kernel
theorem dX3_take_23 : decode cX3_take 23 = .ok (.bipush 6, 2) := by decide +kernel
theorem dX3_take_25 : decode cX3_take 25 = .ok (.if_icmp .ge 51, 3) := by decide +kernel
theorem dX3_take_28 : decode cX3_take 28 = .ok (.iload 6, 2) := by decide +kernel
theorem dX3_take_30 : decode cX3_take 30 = .ok (.iload 7, 2) := by decide +kernel
theorem dX3_take_32 : decode cX3_take 32 = .ok (.if_icmp .ne 7, 3) := by decide +kernel
theorem dX3_take_35 : decode cX3_take 35 = .ok (.lload_n 2, 1) := by decide +kernel
theorem dX3_take_36 : decode cX3_take 36 = .ok (.goto 4, 3) := by decide +kernel
theorem dX3_take_39 : decode cX3_take 39 = .ok (.lconst 0, 1) := by decide +kernel
theorem dX3_take_40 : decode cX3_take 40 = .ok (.lstore 8, 2) := by decide +kernel
theorem dX3_take_42 : decode cX3_take 42 = .ok (.aload_n 0, 1) := by decide +kernel
theorem dX3_take_43 : decode cX3_take 43 = .ok (.getfield 15, 3) := by decide +kernel
theorem dX3_take_46 : decode cX3_take 46 = .ok (.iload 6, 2) := by decide +kernel
theorem dX3_take_48 : decode cX3_take 48 = .ok (.bipush 6, 2) := by decide +kernel
theorem dX3_take_50 : decode cX3_take 50 = .ok (.imul, 1) := by decide +kernel
theorem dX3_take_51 : decode cX3_take 51 = .ok (.iload 7, 2) := by decide +kernel
theorem dX3_take_53 : decode cX3_take 53 = .ok (.iadd, 1) := by decide +kernel
theorem dX3_take_54 : decode cX3_take 54 = .ok (.lload 8, 2) := by decide +kernel
theorem dX3_take_56 : decode cX3_take 56 = .ok (.lload 4, 2) := by decide +kernel
theorem dX3_take_58 : decode cX3_take 58 = .ok (.aload_n 1, 1) := by decide +kernel
theorem dX3_take_59 : decode cX3_take 59 = .ok (.iload 6, 2) := by decide +kernel
theorem dX3_take_61 : decode cX3_take 61 = .ok (.iload 7, 2) := by decide +kernel
theorem dX3_take_63 : decode cX3_take 63 = .ok (.invokevirtual 31, 3) := by decide +kernel
theorem dX3_take_66 : decode cX3_take 66 = .ok (.i2l, 1) := by decide +kernel
theorem dX3_take_67 : decode cX3_take 67 = .ok (.lmul, 1) := by decide +kernel
theorem dX3_take_68 : decode cX3_take 68 = .ok (.ladd, 1) := by decide +kernel
theorem dX3_take_69 : decode cX3_take 69 = .ok (.lastore, 1) := by decide +kernel
theorem dX3_take_70 : decode cX3_take 70 = .ok (.iinc 7 1, 3) := by decide +kernel
theorem dX3_take_73 : decode cX3_take 73 = .ok (.goto (-52), 3) := by decide +kernel
theorem dX3_take_76 : decode cX3_take 76 = .ok (.iinc 6 1, 3) := by decide +kernel
theorem dX3_take_79 : decode cX3_take 79 = .ok (.goto (-68), 3) := by decide +kernel
theorem dX3_take_82 : decode cX3_take 82 = .ok (.return_, 1) := by decide +kernel
set_option maxRecDepth 20000 in
theorem ggX3_ofAll_X3_expand : GoodIn wsX3_ofAll wsX3_expand := goodIn_r _ [7, 2, 1, 8, 9, 10, 11, 6, 12, 13, 14, 15, 16, 17, 18, 19, 20, 21, 22, 23, 24, 25, 26, 27, 28] (by decide +kernel) (by decide +kernel)
set_option maxRecDepth 20000 in
theorem gX3_ofAll_X3_expand : GoodIn wsX3_ofAll (wsV RX3 35 RX3 yX3_expand wsX3_expand) := goodIn_app (goodIn_of _ (by decide +kernel)) ggX3_ofAll_X3_expand
theorem dX3_ofAll_0 : decode cX3_ofAll 0 = .ok (.iconst 1, 1) := by decide +kernel
theorem dX3_ofAll_1 : decode cX3_ofAll 1 = .ok (.aload_n 0, 1) := by decide +kernel
theorem dX3_ofAll_2 : decode cX3_ofAll 2 = .ok (.getfield 9, 3) := by decide +kernel
theorem dX3_ofAll_5 : decode cX3_ofAll 5 = .ok (.ishl, 1) := by decide +kernel
theorem dX3_ofAll_6 : decode cX3_ofAll 6 = .ok (.iconst 1, 1) := by decide +kernel
theorem dX3_ofAll_7 : decode cX3_ofAll 7 = .ok (.isub, 1) := by decide +kernel
theorem dX3_ofAll_8 : decode cX3_ofAll 8 = .ok (.istore_n 1, 1) := by decide +kernel
theorem dX3_ofAll_9 : decode cX3_ofAll 9 = .ok (.aload_n 0, 1) := by decide +kernel
theorem dX3_ofAll_10 : decode cX3_ofAll 10 = .ok (.iload_n 1, 1) := by decide +kernel
theorem dX3_ofAll_11 : decode cX3_ofAll 11 = .ok (.iload_n 1, 1) := by decide +kernel
theorem dX3_ofAll_12 : decode cX3_ofAll 12 = .ok (.invokevirtual 35, 3) := by decide +kernel
theorem dX3_ofAll_15 : decode cX3_ofAll 15 = .ok (.aload_n 0, 1) := by decide +kernel
theorem dX3_ofAll_16 : decode cX3_ofAll 16 = .ok (.getfield 23, 3) := by decide +kernel
theorem dX3_ofAll_19 : decode cX3_ofAll 19 = .ok (.iload_n 1, 1) := by decide +kernel
theorem dX3_ofAll_20 : decode cX3_ofAll 20 = .ok (.laload, 1) := by decide +kernel
theorem dX3_ofAll_21 : decode cX3_ofAll 21 = .ok (.lreturn, 1) := by decide +kernel
set_option maxRecDepth 20000 in
theorem ggX3_leadingArePositive_X3_expand : GoodIn wsX3_leadingArePositive wsX3_expand := goodIn_r _ [7, 2, 1, 8, 9, 10, 11, 6, 12, 13, 14, 15, 16, 17, 18, 19, 20, 21, 22, 23, 24, 25, 26, 27, 28] (by decide +kernel) (by decide +kernel)
set_option maxRecDepth 20000 in
theorem gX3_leadingArePositive_X3_expand : GoodIn wsX3_leadingArePositive (wsV RX3 35 RX3 yX3_expand wsX3_expand) := goodIn_app (goodIn_of _ (by decide +kernel)) ggX3_leadingArePositive_X3_expand
theorem dX3_leadingArePositive_0 : decode cX3_leadingArePositive 0 = .ok (.iconst 1, 1) := by decide +kernel
theorem dX3_leadingArePositive_1 : decode cX3_leadingArePositive 1 = .ok (.aload_n 0, 1) := by decide +kernel
theorem dX3_leadingArePositive_2 : decode cX3_leadingArePositive 2 = .ok (.getfield 9, 3) := by decide +kernel
theorem dX3_leadingArePositive_5 : decode cX3_leadingArePositive 5 = .ok (.ishl, 1) := by decide +kernel
theorem dX3_leadingArePositive_6 : decode cX3_leadingArePositive 6 = .ok (.iconst 1, 1) := by decide +kernel
theorem dX3_leadingArePositive_7 : decode cX3_leadingArePositive 7 = .ok (.isub, 1) := by decide +kernel
theorem dX3_leadingArePositive_8 : decode cX3_leadingArePositive 8 = .ok (.istore_n 1, 1) := by decide +kernel
theorem dX3_leadingArePositive_9 : decode cX3_leadingArePositive 9 = .ok (.aload_n 0, 1) := by decide +kernel
theorem dX3_leadingArePositive_10 : decode cX3_leadingArePositive 10 = .ok (.iload_n 1, 1) := by decide +kernel
theorem dX3_leadingArePositive_11 : decode cX3_leadingArePositive 11 = .ok (.iload_n 1, 1) := by decide +kernel
theorem dX3_leadingArePositive_12 : decode cX3_leadingArePositive 12 = .ok (.invokevirtual 35, 3) := by decide +kernel
theorem dX3_leadingArePositive_15 : decode cX3_leadingArePositive 15 = .ok (.iconst 1, 1) := by decide +kernel
theorem dX3_leadingArePositive_16 : decode cX3_leadingArePositive 16 = .ok (.istore_n 2, 1) := by decide +kernel
theorem dX3_leadingArePositive_17 : decode cX3_leadingArePositive 17 = .ok (.iload_n 2, 1) := by decide +kernel
theorem dX3_leadingArePositive_18 : decode cX3_leadingArePositive 18 = .ok (.aload_n 0, 1) := by decide +kernel
theorem dX3_leadingArePositive_19 : decode cX3_leadingArePositive 19 = .ok (.getfield 9, 3) := by decide +kernel
theorem dX3_leadingArePositive_22 : decode cX3_leadingArePositive 22 = .ok (.if_icmp .gt 26, 3) := by decide +kernel
theorem dX3_leadingArePositive_25 : decode cX3_leadingArePositive 25 = .ok (.aload_n 0, 1) := by decide +kernel
theorem dX3_leadingArePositive_26 : decode cX3_leadingArePositive 26 = .ok (.getfield 23, 3) := by decide +kernel
theorem dX3_leadingArePositive_29 : decode cX3_leadingArePositive 29 = .ok (.iconst 1, 1) := by decide +kernel
theorem dX3_leadingArePositive_30 : decode cX3_leadingArePositive 30 = .ok (.iload_n 2, 1) := by decide +kernel
theorem dX3_leadingArePositive_31 : decode cX3_leadingArePositive 31 = .ok (.ishl, 1) := by decide +kernel
theorem dX3_leadingArePositive_32 : decode cX3_leadingArePositive 32 = .ok (.iconst 1, 1) := by decide +kernel
theorem dX3_leadingArePositive_33 : decode cX3_leadingArePositive 33 = .ok (.isub, 1) := by decide +kernel
theorem dX3_leadingArePositive_34 : decode cX3_leadingArePositive 34 = .ok (.laload, 1) := by decide +kernel
theorem dX3_leadingArePositive_35 : decode cX3_leadingArePositive 35 = .ok (.lconst 0, 1) := by decide +kernel
theorem dX3_leadingArePositive_36 : decode cX3_leadingArePositive 36 = .ok (.lcmp, 1) := by decide +kernel
theorem dX3_leadingArePositive_37 : decode cX3_leadingArePositive 37 = .ok (.ifCond .gt 5, 3) := by decide +kernel
theorem dX3_leadingArePositive_40 : decode cX3_leadingArePositive 40 = .ok (.iconst 0, 1) := by decide +kernel
theorem dX3_leadingArePositive_41 : decode cX3_leadingArePositive 41 = .ok (.ireturn, 1) := by decide +kernel
theorem dX3_leadingArePositive_42 : decode cX3_leadingArePositive 42 = .ok (.iinc 2 1, 3) := by decide +kernel
theorem dX3_leadingArePositive_45 : decode cX3_leadingArePositive 45 = .ok (.goto (-28), 3) := by decide +kernel
theorem dX3_leadingArePositive_48 : decode cX3_leadingArePositive 48 = .ok (.iconst 1, 1) := by decide +kernel
theorem dX3_leadingArePositive_49 : decode cX3_leadingArePositive 49 = .ok (.ireturn, 1) := by decide +kernel
set_option maxRecDepth 20000 in
theorem ggX3_principalSum_J6_bitCount_0f7a4 : GoodIn wsX3_principalSum wsJ6_bitCount_0f7a4 := goodIn_r _ [6, 7, 8, 9] (by decide +kernel) (by decide +kernel)
set_option maxRecDepth 20000 in
theorem gX3_principalSum_J6_bitCount_0f7a4 : GoodIn wsX3_principalSum (va_wsS RX3 39 yJ6_bitCount_0f7a4 wsJ6_bitCount_0f7a4) := goodIn_app (goodIn_of _ (by decide +kernel)) ggX3_principalSum_J6_bitCount_0f7a4
set_option maxRecDepth 20000 in
theorem ggX3_principalSum_X3_expand : GoodIn wsX3_principalSum wsX3_expand := goodIn_r _ [14, 2, 1, 15, 16, 17, 18, 13, 19, 3, 4, 5, 6, 7, 8, 9, 20, 21, 22, 23, 24, 25, 26, 27, 28] (by decide +kernel) (by decide +kernel)
set_option maxRecDepth 20000 in
theorem gX3_principalSum_X3_expand : GoodIn wsX3_principalSum (wsV RX3 35 RX3 yX3_expand wsX3_expand) := goodIn_app (goodIn_of _ (by decide +kernel)) ggX3_principalSum_X3_expand
theorem dX3_principalSum_0 : decode cX3_principalSum 0 = .ok (.lconst 0, 1) := by decide +kernel
theorem dX3_principalSum_1 : decode cX3_principalSum 1 = .ok (.lstore_n 2, 1) := by decide +kernel
theorem dX3_principalSum_2 : decode cX3_principalSum 2 = .ok (.iconst 0, 1) := by decide +kernel
theorem dX3_principalSum_3 : decode cX3_principalSum 3 = .ok (.istore 4, 2) := by decide +kernel
theorem dX3_principalSum_5 : decode cX3_principalSum 5 = .ok (.iload 4, 2) := by decide +kernel
theorem dX3_principalSum_7 : decode cX3_principalSum 7 = .ok (.iconst 1, 1) := by decide +kernel
theorem dX3_principalSum_8 : decode cX3_principalSum 8 = .ok (.aload_n 0, 1) := by decide +kernel
theorem dX3_principalSum_9 : decode cX3_principalSum 9 = .ok (.getfield 9, 3) := by decide +kernel
theorem dX3_principalSum_12 : decode cX3_principalSum 12 = .ok (.ishl, 1) := by decide +kernel
theorem dX3_principalSum_13 : decode cX3_principalSum 13 = .ok (.if_icmp .ge 36, 3) := by decide +kernel
theorem dX3_principalSum_16 : decode cX3_principalSum 16 = .ok (.iload 4, 2) := by decide +kernel
theorem dX3_principalSum_18 : decode cX3_principalSum 18 = .ok (.invokestatic 39, 3) := by decide +kernel
theorem dX3_principalSum_21 : decode cX3_principalSum 21 = .ok (.iload_n 1, 1) := by decide +kernel
theorem dX3_principalSum_22 : decode cX3_principalSum 22 = .ok (.if_icmp .ne 21, 3) := by decide +kernel
theorem dX3_principalSum_25 : decode cX3_principalSum 25 = .ok (.aload_n 0, 1) := by decide +kernel
theorem dX3_principalSum_26 : decode cX3_principalSum 26 = .ok (.iload 4, 2) := by decide +kernel
theorem dX3_principalSum_28 : decode cX3_principalSum 28 = .ok (.iload 4, 2) := by decide +kernel
theorem dX3_principalSum_30 : decode cX3_principalSum 30 = .ok (.invokevirtual 35, 3) := by decide +kernel
theorem dX3_principalSum_33 : decode cX3_principalSum 33 = .ok (.lload_n 2, 1) := by decide +kernel
theorem dX3_principalSum_34 : decode cX3_principalSum 34 = .ok (.aload_n 0, 1) := by decide +kernel
theorem dX3_principalSum_35 : decode cX3_principalSum 35 = .ok (.getfield 23, 3) := by decide +kernel
theorem dX3_principalSum_38 : decode cX3_principalSum 38 = .ok (.iload 4, 2) := by decide +kernel
theorem dX3_principalSum_40 : decode cX3_principalSum 40 = .ok (.laload, 1) := by decide +kernel
theorem dX3_principalSum_41 : decode cX3_principalSum 41 = .ok (.ladd, 1) := by decide +kernel
theorem dX3_principalSum_42 : decode cX3_principalSum 42 = .ok (.lstore_n 2, 1) := by decide +kernel
theorem dX3_principalSum_43 : decode cX3_principalSum 43 = .ok (.iinc 4 1, 3) := by decide +kernel
theorem dX3_principalSum_46 : decode cX3_principalSum 46 = .ok (.goto (-41), 3) := by decide +kernel
theorem dX3_principalSum_49 : decode cX3_principalSum 49 = .ok (.lload_n 2, 1) := by decide +kernel
theorem dX3_principalSum_50 : decode cX3_principalSum 50 = .ok (.lreturn, 1) := by decide +kernel
set_option maxRecDepth 20000 in
theorem ggX3_commonDivisor_J6_bitCount_0f7a4 : GoodIn wsX3_commonDivisor wsJ6_bitCount_0f7a4 := goodIn_r _ [5, 6, 7, 8] (by decide +kernel) (by decide +kernel)
set_option maxRecDepth 20000 in
theorem gX3_commonDivisor_J6_bitCount_0f7a4 : GoodIn wsX3_commonDivisor (va_wsS RX3 39 yJ6_bitCount_0f7a4 wsJ6_bitCount_0f7a4) := goodIn_app (goodIn_of _ (by decide +kernel)) ggX3_commonDivisor_J6_bitCount_0f7a4
set_option maxRecDepth 20000 in
theorem ggX3_commonDivisor_X3_expand : GoodIn wsX3_commonDivisor wsX3_expand := goodIn_r _ [13, 14, 1, 15, 16, 17, 18, 12, 19, 2, 3, 4, 5, 6, 7, 8, 20, 21, 22, 23, 24, 36, 37, 38, 39] (by decide +kernel) (by decide +kernel)
set_option maxRecDepth 20000 in
theorem gX3_commonDivisor_X3_expand : GoodIn wsX3_commonDivisor (wsV RX3 35 RX3 yX3_expand wsX3_expand) := goodIn_app (goodIn_of _ (by decide +kernel)) ggX3_commonDivisor_X3_expand
set_option maxRecDepth 20000 in
theorem ggX3_commonDivisor_X3_divisorWithMinors : GoodIn wsX3_commonDivisor wsX3_divisorWithMinors := goodIn_r _ [28, 1, 14, 29, 30, 31, 32, 2, 3, 4, 5, 6, 7, 8, 33, 34, 35, 36, 37, 38, 39] (by decide +kernel) (by decide +kernel)
set_option maxRecDepth 20000 in
theorem gX3_commonDivisor_X3_divisorWithMinors : GoodIn wsX3_commonDivisor (wsV RX3 45 RX3 yX3_divisorWithMinors wsX3_divisorWithMinors) := goodIn_app (goodIn_of _ (by decide +kernel)) ggX3_commonDivisor_X3_divisorWithMinors
theorem dX3_commonDivisor_0 : decode cX3_commonDivisor 0 = .ok (.iconst 1, 1) := by decide +kernel
theorem dX3_commonDivisor_1 : decode cX3_commonDivisor 1 = .ok (.aload_n 0, 1) := by decide +kernel
theorem dX3_commonDivisor_2 : decode cX3_commonDivisor 2 = .ok (.getfield 9, 3) := by decide +kernel
theorem dX3_commonDivisor_5 : decode cX3_commonDivisor 5 = .ok (.ishl, 1) := by decide +kernel
theorem dX3_commonDivisor_6 : decode cX3_commonDivisor 6 = .ok (.iconst 1, 1) := by decide +kernel
theorem dX3_commonDivisor_7 : decode cX3_commonDivisor 7 = .ok (.isub, 1) := by decide +kernel
theorem dX3_commonDivisor_8 : decode cX3_commonDivisor 8 = .ok (.istore_n 2, 1) := by decide +kernel
theorem dX3_commonDivisor_9 : decode cX3_commonDivisor 9 = .ok (.lconst 0, 1) := by decide +kernel
theorem dX3_commonDivisor_10 : decode cX3_commonDivisor 10 = .ok (.lstore_n 3, 1) := by decide +kernel
theorem dX3_commonDivisor_11 : decode cX3_commonDivisor 11 = .ok (.iconst 0, 1) := by decide +kernel
theorem dX3_commonDivisor_12 : decode cX3_commonDivisor 12 = .ok (.istore 5, 2) := by decide +kernel
theorem dX3_commonDivisor_14 : decode cX3_commonDivisor 14 = .ok (.iload 5, 2) := by decide +kernel
theorem dX3_commonDivisor_16 : decode cX3_commonDivisor 16 = .ok (.iconst 1, 1) := by decide +kernel
theorem dX3_commonDivisor_17 : decode cX3_commonDivisor 17 = .ok (.aload_n 0, 1) := by decide +kernel
theorem dX3_commonDivisor_18 : decode cX3_commonDivisor 18 = .ok (.getfield 9, 3) := by decide +kernel
theorem dX3_commonDivisor_21 : decode cX3_commonDivisor 21 = .ok (.ishl, 1) := by decide +kernel
theorem dX3_commonDivisor_22 : decode cX3_commonDivisor 22 = .ok (.if_icmp .ge 38, 3) := by decide +kernel
theorem dX3_commonDivisor_25 : decode cX3_commonDivisor 25 = .ok (.lload_n 3, 1) := by decide +kernel
theorem dX3_commonDivisor_26 : decode cX3_commonDivisor 26 = .ok (.lconst 1, 1) := by decide +kernel
theorem dX3_commonDivisor_27 : decode cX3_commonDivisor 27 = .ok (.lcmp, 1) := by decide +kernel
theorem dX3_commonDivisor_28 : decode cX3_commonDivisor 28 = .ok (.ifCond .eq 32, 3) := by decide +kernel
theorem dX3_commonDivisor_31 : decode cX3_commonDivisor 31 = .ok (.iload 5, 2) := by decide +kernel
theorem dX3_commonDivisor_33 : decode cX3_commonDivisor 33 = .ok (.invokestatic 39, 3) := by decide +kernel
theorem dX3_commonDivisor_36 : decode cX3_commonDivisor 36 = .ok (.iload_n 1, 1) := by decide +kernel
theorem dX3_commonDivisor_37 : decode cX3_commonDivisor 37 = .ok (.if_icmp .ne 17, 3) := by decide +kernel
theorem dX3_commonDivisor_40 : decode cX3_commonDivisor 40 = .ok (.aload_n 0, 1) := by decide +kernel
theorem dX3_commonDivisor_41 : decode cX3_commonDivisor 41 = .ok (.iload 5, 2) := by decide +kernel
theorem dX3_commonDivisor_43 : decode cX3_commonDivisor 43 = .ok (.iload_n 2, 1) := by decide +kernel
theorem dX3_commonDivisor_44 : decode cX3_commonDivisor 44 = .ok (.invokevirtual 35, 3) := by decide +kernel
theorem dX3_commonDivisor_47 : decode cX3_commonDivisor 47 = .ok (.aload_n 0, 1) := by decide +kernel
theorem dX3_commonDivisor_48 : decode cX3_commonDivisor 48 = .ok (.lload_n 3, 1) := by decide +kernel
theorem dX3_commonDivisor_49 : decode cX3_commonDivisor 49 = .ok (.iload_n 1, 1) := by decide +kernel
theorem dX3_commonDivisor_50 : decode cX3_commonDivisor 50 = .ok (.invokevirtual 45, 3) := by decide +kernel
theorem dX3_commonDivisor_53 : decode cX3_commonDivisor 53 = .ok (.lstore_n 3, 1) := by decide +kernel
theorem dX3_commonDivisor_54 : decode cX3_commonDivisor 54 = .ok (.iinc 5 1, 3) := by decide +kernel
theorem dX3_commonDivisor_57 : decode cX3_commonDivisor 57 = .ok (.goto (-43), 3) := by decide +kernel
theorem dX3_commonDivisor_60 : decode cX3_commonDivisor 60 = .ok (.lload_n 3, 1) := by decide +kernel
theorem dX3_commonDivisor_61 : decode cX3_commonDivisor 61 = .ok (.lreturn, 1) := by decide +kernel
set_option maxRecDepth 20000 in
theorem ggX3_divisorWithMinors_J6_bitCount_0f7a4 : GoodIn wsX3_divisorWithMinors wsJ6_bitCount_0f7a4 := goodIn_r _ [10, 11, 12, 13] (by decide +kernel) (by decide +kernel)
set_option maxRecDepth 20000 in
theorem gX3_divisorWithMinors_J6_bitCount_0f7a4 : GoodIn wsX3_divisorWithMinors (va_wsS RX3 39 yJ6_bitCount_0f7a4 wsJ6_bitCount_0f7a4) := goodIn_app (goodIn_of _ (by decide +kernel)) ggX3_divisorWithMinors_J6_bitCount_0f7a4
set_option maxRecDepth 20000 in
theorem ggX3_divisorWithMinors_X5_greatestCommonDivisor : GoodIn wsX3_divisorWithMinors wsX5_greatestCommonDivisor := goodIn_r _ [16] (by decide +kernel) (by decide +kernel)
set_option maxRecDepth 20000 in
theorem gX3_divisorWithMinors_X5_greatestCommonDivisor_n55 : GoodIn wsX3_divisorWithMinors (wsX5_greatestCommonDivisor) := ggX3_divisorWithMinors_X5_greatestCommonDivisor
theorem dX3_divisorWithMinors_0 : decode cX3_divisorWithMinors 0 = .ok (.lload_n 1, 1) := by decide +kernel
theorem dX3_divisorWithMinors_1 : decode cX3_divisorWithMinors 1 = .ok (.lstore 4, 2) := by decide +kernel
theorem dX3_divisorWithMinors_3 : decode cX3_divisorWithMinors 3 = .ok (.iconst 0, 1) := by decide +kernel
theorem dX3_divisorWithMinors_4 : decode cX3_divisorWithMinors 4 = .ok (.istore 6, 2) := by decide +kernel
theorem dX3_divisorWithMinors_6 : decode cX3_divisorWithMinors 6 = .ok (.iload 6, 2) := by decide +kernel
theorem dX3_divisorWithMinors_8 : decode cX3_divisorWithMinors 8 = .ok (.iconst 1, 1) := by decide +kernel
theorem dX3_divisorWithMinors_9 : decode cX3_divisorWithMinors 9 = .ok (.aload_n 0, 1) := by decide +kernel
theorem dX3_divisorWithMinors_10 : decode cX3_divisorWithMinors 10 = .ok (.getfield 9, 3) := by decide +kernel
theorem dX3_divisorWithMinors_13 : decode cX3_divisorWithMinors 13 = .ok (.ishl, 1) := by decide +kernel
theorem dX3_divisorWithMinors_14 : decode cX3_divisorWithMinors 14 = .ok (.if_icmp .ge 35, 3) := by decide +kernel
theorem dX3_divisorWithMinors_17 : decode cX3_divisorWithMinors 17 = .ok (.iload 6, 2) := by decide +kernel
theorem dX3_divisorWithMinors_19 : decode cX3_divisorWithMinors 19 = .ok (.invokestatic 39, 3) := by decide +kernel
theorem dX3_divisorWithMinors_22 : decode cX3_divisorWithMinors 22 = .ok (.iload_n 3, 1) := by decide +kernel
theorem dX3_divisorWithMinors_23 : decode cX3_divisorWithMinors 23 = .ok (.if_icmp .ne 20, 3) := by decide +kernel
theorem dX3_divisorWithMinors_26 : decode cX3_divisorWithMinors 26 = .ok (.lload 4, 2) := by decide +kernel
theorem dX3_divisorWithMinors_28 : decode cX3_divisorWithMinors 28 = .ok (.aload_n 0, 1) := by decide +kernel
theorem dX3_divisorWithMinors_29 : decode cX3_divisorWithMinors 29 = .ok (.getfield 23, 3) := by decide +kernel
theorem dX3_divisorWithMinors_32 : decode cX3_divisorWithMinors 32 = .ok (.iload 6, 2) := by decide +kernel
theorem dX3_divisorWithMinors_34 : decode cX3_divisorWithMinors 34 = .ok (.laload, 1) := by decide +kernel
theorem dX3_divisorWithMinors_35 : decode cX3_divisorWithMinors 35 = .ok (.invokestatic 49, 3) := by decide +kernel
theorem dX3_divisorWithMinors_38 : decode cX3_divisorWithMinors 38 = .ok (.invokestatic 55, 3) := by decide +kernel
theorem dX3_divisorWithMinors_41 : decode cX3_divisorWithMinors 41 = .ok (.lstore 4, 2) := by decide +kernel
theorem dX3_divisorWithMinors_43 : decode cX3_divisorWithMinors 43 = .ok (.iinc 6 1, 3) := by decide +kernel
theorem dX3_divisorWithMinors_46 : decode cX3_divisorWithMinors 46 = .ok (.goto (-40), 3) := by decide +kernel
theorem dX3_divisorWithMinors_49 : decode cX3_divisorWithMinors 49 = .ok (.lload 4, 2) := by decide +kernel
theorem dX3_divisorWithMinors_51 : decode cX3_divisorWithMinors 51 = .ok (.lreturn, 1) := by decide +kernel
set_option maxRecDepth 20000 in
theorem ggX3_expand_X3_chooseRows : GoodIn wsX3_expand wsX3_chooseRows := goodIn_r _ [8, 2, 3, 21, 22, 23, 24] (by decide +kernel) (by decide +kernel)
set_option maxRecDepth 20000 in
theorem gX3_expand_X3_chooseRows : GoodIn wsX3_expand (wsV RX3 59 RX3 yX3_chooseRows wsX3_chooseRows) := goodIn_app (goodIn_of _ (by decide +kernel)) ggX3_expand_X3_chooseRows
set_option maxRecDepth 20000 in
theorem ggX3_expand_J6_bitCount_0f7a4 : GoodIn wsX3_expand wsJ6_bitCount_0f7a4 := goodIn_r _ [12, 13, 14, 15] (by decide +kernel) (by decide +kernel)
set_option maxRecDepth 20000 in
theorem gX3_expand_J6_bitCount_0f7a4 : GoodIn wsX3_expand (va_wsS RX3 39 yJ6_bitCount_0f7a4 wsJ6_bitCount_0f7a4) := goodIn_app (goodIn_of _ (by decide +kernel)) ggX3_expand_J6_bitCount_0f7a4
set_option maxRecDepth 20000 in
theorem ggX3_expand_X3_expandedByLastRow : GoodIn wsX3_expand wsX3_expandedByLastRow := goodIn_r _ [19, 2, 20, 1, 21, 22, 23, 24] (by decide +kernel) (by decide +kernel)
set_option maxRecDepth 20000 in
theorem gX3_expand_X3_expandedByLastRow : GoodIn wsX3_expand (wsV RX3 62 RX3 yX3_expandedByLastRow wsX3_expandedByLastRow) := goodIn_app (goodIn_of _ (by decide +kernel)) ggX3_expand_X3_expandedByLastRow
theorem dX3_expand_0 : decode cX3_expand 0 = .ok (.aload_n 0, 1) := by decide +kernel
theorem dX3_expand_1 : decode cX3_expand 1 = .ok (.iload_n 1, 1) := by decide +kernel
theorem dX3_expand_2 : decode cX3_expand 2 = .ok (.invokevirtual 59, 3) := by decide +kernel
theorem dX3_expand_5 : decode cX3_expand 5 = .ok (.istore_n 3, 1) := by decide +kernel
theorem dX3_expand_6 : decode cX3_expand 6 = .ok (.aload_n 0, 1) := by decide +kernel
theorem dX3_expand_7 : decode cX3_expand 7 = .ok (.getfield 23, 3) := by decide +kernel
theorem dX3_expand_10 : decode cX3_expand 10 = .ok (.iconst 0, 1) := by decide +kernel
theorem dX3_expand_11 : decode cX3_expand 11 = .ok (.lconst 1, 1) := by decide +kernel
theorem dX3_expand_12 : decode cX3_expand 12 = .ok (.lastore, 1) := by decide +kernel
theorem dX3_expand_13 : decode cX3_expand 13 = .ok (.iconst 1, 1) := by decide +kernel
theorem dX3_expand_14 : decode cX3_expand 14 = .ok (.istore 4, 2) := by decide +kernel
theorem dX3_expand_16 : decode cX3_expand 16 = .ok (.iload 4, 2) := by decide +kernel
theorem dX3_expand_18 : decode cX3_expand 18 = .ok (.iconst 1, 1) := by decide +kernel
theorem dX3_expand_19 : decode cX3_expand 19 = .ok (.aload_n 0, 1) := by decide +kernel
theorem dX3_expand_20 : decode cX3_expand 20 = .ok (.getfield 9, 3) := by decide +kernel
theorem dX3_expand_23 : decode cX3_expand 23 = .ok (.ishl, 1) := by decide +kernel
theorem dX3_expand_24 : decode cX3_expand 24 = .ok (.if_icmp .ge 69, 3) := by decide +kernel
theorem dX3_expand_27 : decode cX3_expand 27 = .ok (.iload 4, 2) := by decide +kernel
theorem dX3_expand_29 : decode cX3_expand 29 = .ok (.invokestatic 39, 3) := by decide +kernel
theorem dX3_expand_32 : decode cX3_expand 32 = .ok (.istore 5, 2) := by decide +kernel
theorem dX3_expand_34 : decode cX3_expand 34 = .ok (.iload 4, 2) := by decide +kernel
theorem dX3_expand_36 : decode cX3_expand 36 = .ok (.iload_n 2, 1) := by decide +kernel
theorem dX3_expand_37 : decode cX3_expand 37 = .ok (.iand, 1) := by decide +kernel
theorem dX3_expand_38 : decode cX3_expand 38 = .ok (.iload 4, 2) := by decide +kernel
theorem dX3_expand_40 : decode cX3_expand 40 = .ok (.if_icmp .ne 13, 3) := by decide +kernel
theorem dX3_expand_43 : decode cX3_expand 43 = .ok (.iload 5, 2) := by decide +kernel
theorem dX3_expand_45 : decode cX3_expand 45 = .ok (.iload_n 3, 1) := by decide +kernel
theorem dX3_expand_46 : decode cX3_expand 46 = .ok (.if_icmp .gt 7, 3) := by decide +kernel
theorem dX3_expand_49 : decode cX3_expand 49 = .ok (.iconst 1, 1) := by decide +kernel
theorem dX3_expand_50 : decode cX3_expand 50 = .ok (.goto 4, 3) := by decide +kernel
theorem dX3_expand_53 : decode cX3_expand 53 = .ok (.iconst 0, 1) := by decide +kernel
theorem dX3_expand_54 : decode cX3_expand 54 = .ok (.istore 6, 2) := by decide +kernel
theorem dX3_expand_56 : decode cX3_expand 56 = .ok (.aload_n 0, 1) := by decide +kernel
theorem dX3_expand_57 : decode cX3_expand 57 = .ok (.getfield 23, 3) := by decide +kernel
theorem dX3_expand_60 : decode cX3_expand 60 = .ok (.iload 4, 2) := by decide +kernel
theorem dX3_expand_62 : decode cX3_expand 62 = .ok (.iload 6, 2) := by decide +kernel
theorem dX3_expand_64 : decode cX3_expand 64 = .ok (.ifCond .eq 21, 3) := by decide +kernel
theorem dX3_expand_67 : decode cX3_expand 67 = .ok (.aload_n 0, 1) := by decide +kernel
theorem dX3_expand_68 : decode cX3_expand 68 = .ok (.aload_n 0, 1) := by decide +kernel
theorem dX3_expand_69 : decode cX3_expand 69 = .ok (.getfield 19, 3) := by decide +kernel
theorem dX3_expand_72 : decode cX3_expand 72 = .ok (.iload 5, 2) := by decide +kernel
theorem dX3_expand_74 : decode cX3_expand 74 = .ok (.iconst 1, 1) := by decide +kernel
theorem dX3_expand_75 : decode cX3_expand 75 = .ok (.isub, 1) := by decide +kernel
theorem dX3_expand_76 : decode cX3_expand 76 = .ok (.iaload, 1) := by decide +kernel
theorem dX3_expand_77 : decode cX3_expand 77 = .ok (.iload 4, 2) := by decide +kernel
theorem dX3_expand_79 : decode cX3_expand 79 = .ok (.invokevirtual 62, 3) := by decide +kernel
theorem dX3_expand_82 : decode cX3_expand 82 = .ok (.goto 4, 3) := by decide +kernel
theorem dX3_expand_85 : decode cX3_expand 85 = .ok (.lconst 0, 1) := by decide +kernel
theorem dX3_expand_86 : decode cX3_expand 86 = .ok (.lastore, 1) := by decide +kernel
theorem dX3_expand_87 : decode cX3_expand 87 = .ok (.iinc 4 1, 3) := by decide +kernel
theorem dX3_expand_90 : decode cX3_expand 90 = .ok (.goto (-74), 3) := by decide +kernel
theorem dX3_expand_93 : decode cX3_expand 93 = .ok (.return_, 1) := by decide +kernel
theorem dX3_chooseRows_0 : decode cX3_chooseRows 0 = .ok (.iconst 0, 1) := by decide +kernel
theorem dX3_chooseRows_1 : decode cX3_chooseRows 1 = .ok (.istore_n 2, 1) := by decide +kernel
theorem dX3_chooseRows_2 : decode cX3_chooseRows 2 = .ok (.iconst 0, 1) := by decide +kernel
theorem dX3_chooseRows_3 : decode cX3_chooseRows 3 = .ok (.istore_n 3, 1) := by decide +kernel
theorem dX3_chooseRows_4 : decode cX3_chooseRows 4 = .ok (.iload_n 3, 1) := by decide +kernel
theorem dX3_chooseRows_5 : decode cX3_chooseRows 5 = .ok (.aload_n 0, 1) := by decide +kernel
theorem dX3_chooseRows_6 : decode cX3_chooseRows 6 = .ok (.getfield 9, 3) := by decide +kernel
theorem dX3_chooseRows_9 : decode cX3_chooseRows 9 = .ok (.if_icmp .ge 33, 3) := by decide +kernel
theorem dX3_chooseRows_12 : decode cX3_chooseRows 12 = .ok (.iload_n 2, 1) := by decide +kernel
theorem dX3_chooseRows_13 : decode cX3_chooseRows 13 = .ok (.bipush 6, 2) := by decide +kernel
theorem dX3_chooseRows_15 : decode cX3_chooseRows 15 = .ok (.if_icmp .ge 27, 3) := by decide +kernel
theorem dX3_chooseRows_18 : decode cX3_chooseRows 18 = .ok (.iload_n 1, 1) := by decide +kernel
theorem dX3_chooseRows_19 : decode cX3_chooseRows 19 = .ok (.iload_n 3, 1) := by decide +kernel
theorem dX3_chooseRows_20 : decode cX3_chooseRows 20 = .ok (.ishr, 1) := by decide +kernel
theorem dX3_chooseRows_21 : decode cX3_chooseRows 21 = .ok (.iconst 1, 1) := by decide +kernel
theorem dX3_chooseRows_22 : decode cX3_chooseRows 22 = .ok (.iand, 1) := by decide +kernel
theorem dX3_chooseRows_23 : decode cX3_chooseRows 23 = .ok (.ifCond .eq 13, 3) := by decide +kernel
theorem dX3_chooseRows_26 : decode cX3_chooseRows 26 = .ok (.aload_n 0, 1) := by decide +kernel
theorem dX3_chooseRows_27 : decode cX3_chooseRows 27 = .ok (.getfield 19, 3) := by decide +kernel
theorem dX3_chooseRows_30 : decode cX3_chooseRows 30 = .ok (.iload_n 2, 1) := by decide +kernel
theorem dX3_chooseRows_31 : decode cX3_chooseRows 31 = .ok (.iload_n 3, 1) := by decide +kernel
theorem dX3_chooseRows_32 : decode cX3_chooseRows 32 = .ok (.iastore, 1) := by decide +kernel
theorem dX3_chooseRows_33 : decode cX3_chooseRows 33 = .ok (.iinc 2 1, 3) := by decide +kernel
theorem dX3_chooseRows_36 : decode cX3_chooseRows 36 = .ok (.iinc 3 1, 3) := by decide +kernel
theorem dX3_chooseRows_39 : decode cX3_chooseRows 39 = .ok (.goto (-35), 3) := by decide +kernel
theorem dX3_chooseRows_42 : decode cX3_chooseRows 42 = .ok (.iload_n 2, 1) := by decide +kernel
theorem dX3_chooseRows_43 : decode cX3_chooseRows 43 = .ok (.ireturn, 1) := by decide +kernel
theorem dX3_expandedByLastRow_0 : decode cX3_expandedByLastRow 0 = .ok (.lconst 0, 1) := by decide +kernel
theorem dX3_expandedByLastRow_1 : decode cX3_expandedByLastRow 1 = .ok (.lstore_n 3, 1) := by decide +kernel
theorem dX3_expandedByLastRow_2 : decode cX3_expandedByLastRow 2 = .ok (.iconst 1, 1) := by decide +kernel
theorem dX3_expandedByLastRow_3 : decode cX3_expandedByLastRow 3 = .ok (.istore 5, 2) := by decide +kernel
theorem dX3_expandedByLastRow_5 : decode cX3_expandedByLastRow 5 = .ok (.aload_n 0, 1) := by decide +kernel
theorem dX3_expandedByLastRow_6 : decode cX3_expandedByLastRow 6 = .ok (.getfield 9, 3) := by decide +kernel
theorem dX3_expandedByLastRow_9 : decode cX3_expandedByLastRow 9 = .ok (.iconst 1, 1) := by decide +kernel
theorem dX3_expandedByLastRow_10 : decode cX3_expandedByLastRow 10 = .ok (.isub, 1) := by decide +kernel
theorem dX3_expandedByLastRow_11 : decode cX3_expandedByLastRow 11 = .ok (.istore 6, 2) := by decide +kernel
theorem dX3_expandedByLastRow_13 : decode cX3_expandedByLastRow 13 = .ok (.iload 6, 2) := by decide +kernel
theorem dX3_expandedByLastRow_15 : decode cX3_expandedByLastRow 15 = .ok (.ifCond .lt 56, 3) := by decide +kernel
theorem dX3_expandedByLastRow_18 : decode cX3_expandedByLastRow 18 = .ok (.iload_n 2, 1) := by decide +kernel
theorem dX3_expandedByLastRow_19 : decode cX3_expandedByLastRow 19 = .ok (.iload 6, 2) := by decide +kernel
theorem dX3_expandedByLastRow_21 : decode cX3_expandedByLastRow 21 = .ok (.ishr, 1) := by decide +kernel
theorem dX3_expandedByLastRow_22 : decode cX3_expandedByLastRow 22 = .ok (.iconst 1, 1) := by decide +kernel
theorem dX3_expandedByLastRow_23 : decode cX3_expandedByLastRow 23 = .ok (.iand, 1) := by decide +kernel
theorem dX3_expandedByLastRow_24 : decode cX3_expandedByLastRow 24 = .ok (.ifCond .eq 41, 3) := by decide +kernel
theorem dX3_expandedByLastRow_27 : decode cX3_expandedByLastRow 27 = .ok (.lload_n 3, 1) := by decide +kernel
theorem dX3_expandedByLastRow_28 : decode cX3_expandedByLastRow 28 = .ok (.iload 5, 2) := by decide +kernel
theorem dX3_expandedByLastRow_30 : decode cX3_expandedByLastRow 30 = .ok (.i2l, 1) := by decide +kernel
theorem dX3_expandedByLastRow_31 : decode cX3_expandedByLastRow 31 = .ok (.aload_n 0, 1) := by decide +kernel
theorem dX3_expandedByLastRow_32 : decode cX3_expandedByLastRow 32 = .ok (.getfield 15, 3) := by decide +kernel
theorem dX3_expandedByLastRow_35 : decode cX3_expandedByLastRow 35 = .ok (.iload_n 1, 1) := by decide +kernel
theorem dX3_expandedByLastRow_36 : decode cX3_expandedByLastRow 36 = .ok (.bipush 6, 2) := by decide +kernel
theorem dX3_expandedByLastRow_38 : decode cX3_expandedByLastRow 38 = .ok (.imul, 1) := by decide +kernel
theorem dX3_expandedByLastRow_39 : decode cX3_expandedByLastRow 39 = .ok (.iload 6, 2) := by decide +kernel
theorem dX3_expandedByLastRow_41 : decode cX3_expandedByLastRow 41 = .ok (.iadd, 1) := by decide +kernel
theorem dX3_expandedByLastRow_42 : decode cX3_expandedByLastRow 42 = .ok (.laload, 1) := by decide +kernel
theorem dX3_expandedByLastRow_43 : decode cX3_expandedByLastRow 43 = .ok (.lmul, 1) := by decide +kernel
theorem dX3_expandedByLastRow_44 : decode cX3_expandedByLastRow 44 = .ok (.aload_n 0, 1) := by decide +kernel
theorem dX3_expandedByLastRow_45 : decode cX3_expandedByLastRow 45 = .ok (.getfield 23, 3) := by decide +kernel
theorem dX3_expandedByLastRow_48 : decode cX3_expandedByLastRow 48 = .ok (.iload_n 2, 1) := by decide +kernel
theorem dX3_expandedByLastRow_49 : decode cX3_expandedByLastRow 49 = .ok (.iconst 1, 1) := by decide +kernel
theorem dX3_expandedByLastRow_50 : decode cX3_expandedByLastRow 50 = .ok (.iload 6, 2) := by decide +kernel
theorem dX3_expandedByLastRow_52 : decode cX3_expandedByLastRow 52 = .ok (.ishl, 1) := by decide +kernel
theorem dX3_expandedByLastRow_53 : decode cX3_expandedByLastRow 53 = .ok (.iconst (-1), 1) := by decide +kernel
theorem dX3_expandedByLastRow_54 : decode cX3_expandedByLastRow 54 = .ok (.ixor, 1) := by decide +kernel
theorem dX3_expandedByLastRow_55 : decode cX3_expandedByLastRow 55 = .ok (.iand, 1) := by decide +kernel
theorem dX3_expandedByLastRow_56 : decode cX3_expandedByLastRow 56 = .ok (.laload, 1) := by decide +kernel
theorem dX3_expandedByLastRow_57 : decode cX3_expandedByLastRow 57 = .ok (.lmul, 1) := by decide +kernel
theorem dX3_expandedByLastRow_58 : decode cX3_expandedByLastRow 58 = .ok (.ladd, 1) := by decide +kernel
theorem dX3_expandedByLastRow_59 : decode cX3_expandedByLastRow 59 = .ok (.lstore_n 3, 1) := by decide +kernel
theorem dX3_expandedByLastRow_60 : decode cX3_expandedByLastRow 60 = .ok (.iload 5, 2) := by decide +kernel
theorem dX3_expandedByLastRow_62 : decode cX3_expandedByLastRow 62 = .ok (.ineg, 1) := by decide +kernel
theorem dX3_expandedByLastRow_63 : decode cX3_expandedByLastRow 63 = .ok (.istore 5, 2) := by decide +kernel
theorem dX3_expandedByLastRow_65 : decode cX3_expandedByLastRow 65 = .ok (.iinc 6 (-1), 3) := by decide +kernel
theorem dX3_expandedByLastRow_68 : decode cX3_expandedByLastRow 68 = .ok (.goto (-55), 3) := by decide +kernel
theorem dX3_expandedByLastRow_71 : decode cX3_expandedByLastRow 71 = .ok (.lload_n 3, 1) := by decide +kernel
theorem dX3_expandedByLastRow_72 : decode cX3_expandedByLastRow 72 = .ok (.lreturn, 1) := by decide +kernel
theorem dX4_init_0 : decode cX4_init 0 = .ok (.aload_n 0, 1) := by decide +kernel
theorem dX4_init_1 : decode cX4_init 1 = .ok (.invokespecial 3, 3) := by decide +kernel
theorem dX4_init_4 : decode cX4_init 4 = .ok (.aload_n 0, 1) := by decide +kernel
theorem dX4_init_5 : decode cX4_init 5 = .ok (.bipush 6, 2) := by decide +kernel
theorem dX4_init_7 : decode cX4_init 7 = .ok (.newarray .long, 2) := by decide +kernel
theorem dX4_init_9 : decode cX4_init 9 = .ok (.putfield 9, 3) := by decide +kernel
theorem dX4_init_12 : decode cX4_init 12 = .ok (.aload_n 0, 1) := by decide +kernel
theorem dX4_init_13 : decode cX4_init 13 = .ok (.bipush 6, 2) := by decide +kernel
theorem dX4_init_15 : decode cX4_init 15 = .ok (.newarray .long, 2) := by decide +kernel
theorem dX4_init_17 : decode cX4_init 17 = .ok (.putfield 15, 3) := by decide +kernel
theorem dX4_init_20 : decode cX4_init 20 = .ok (.return_, 1) := by decide +kernel
theorem dX4_beginAt_0 : decode cX4_beginAt 0 = .ok (.iconst 0, 1) := by decide +kernel
theorem dX4_beginAt_1 : decode cX4_beginAt 1 = .ok (.istore_n 2, 1) := by decide +kernel
theorem dX4_beginAt_2 : decode cX4_beginAt 2 = .ok (.iload_n 2, 1) := by decide +kernel
theorem dX4_beginAt_3 : decode cX4_beginAt 3 = .ok (.bipush 6, 2) := by decide +kernel
theorem dX4_beginAt_5 : decode cX4_beginAt 5 = .ok (.if_icmp .ge 25, 3) := by decide +kernel
theorem dX4_beginAt_8 : decode cX4_beginAt 8 = .ok (.aload_n 0, 1) := by decide +kernel
theorem dX4_beginAt_9 : decode cX4_beginAt 9 = .ok (.getfield 9, 3) := by decide +kernel
theorem dX4_beginAt_12 : decode cX4_beginAt 12 = .ok (.iload_n 2, 1) := by decide +kernel
theorem dX4_beginAt_13 : decode cX4_beginAt 13 = .ok (.iload_n 2, 1) := by decide +kernel
theorem dX4_beginAt_14 : decode cX4_beginAt 14 = .ok (.iload_n 1, 1) := by decide +kernel
theorem dX4_beginAt_15 : decode cX4_beginAt 15 = .ok (.if_icmp .ne 7, 3) := by decide +kernel
theorem dX4_beginAt_18 : decode cX4_beginAt 18 = .ok (.lconst 1, 1) := by decide +kernel
theorem dX4_beginAt_19 : decode cX4_beginAt 19 = .ok (.goto 4, 3) := by decide +kernel
theorem dX4_beginAt_22 : decode cX4_beginAt 22 = .ok (.lconst 0, 1) := by decide +kernel
theorem dX4_beginAt_23 : decode cX4_beginAt 23 = .ok (.lastore, 1) := by decide +kernel
theorem dX4_beginAt_24 : decode cX4_beginAt 24 = .ok (.iinc 2 1, 3) := by decide +kernel
theorem dX4_beginAt_27 : decode cX4_beginAt 27 = .ok (.goto (-25), 3) := by decide +kernel
theorem dX4_beginAt_30 : decode cX4_beginAt 30 = .ok (.return_, 1) := by decide +kernel
theorem dX4_beginEverywhere_0 : decode cX4_beginEverywhere 0 = .ok (.iconst 0, 1) := by decide +kernel
theorem dX4_beginEverywhere_1 : decode cX4_beginEverywhere 1 = .ok (.istore_n 1, 1) := by decide +kernel
theorem dX4_beginEverywhere_2 : decode cX4_beginEverywhere 2 = .ok (.iload_n 1, 1) := by decide +kernel
theorem dX4_beginEverywhere_3 : decode cX4_beginEverywhere 3 = .ok (.bipush 6, 2) := by decide +kernel
theorem dX4_beginEverywhere_5 : decode cX4_beginEverywhere 5 = .ok (.if_icmp .ge 16, 3) := by decide +kernel
theorem dX4_beginEverywhere_8 : decode cX4_beginEverywhere 8 = .ok (.aload_n 0, 1) := by decide +kernel
theorem dX4_beginEverywhere_9 : decode cX4_beginEverywhere 9 = .ok (.getfield 9, 3) := by decide +kernel
theorem dX4_beginEverywhere_12 : decode cX4_beginEverywhere 12 = .ok (.iload_n 1, 1) := by decide +kernel
theorem dX4_beginEverywhere_13 : decode cX4_beginEverywhere 13 = .ok (.lconst 1, 1) := by decide +kernel
theorem dX4_beginEverywhere_14 : decode cX4_beginEverywhere 14 = .ok (.lastore, 1) := by decide +kernel
theorem dX4_beginEverywhere_15 : decode cX4_beginEverywhere 15 = .ok (.iinc 1 1, 3) := by decide +kernel
theorem dX4_beginEverywhere_18 : decode cX4_beginEverywhere 18 = .ok (.goto (-16), 3) := by decide +kernel
theorem dX4_beginEverywhere_21 : decode cX4_beginEverywhere 21 = .ok (.return_, 1) := by decide +kernel
set_option maxRecDepth 20000 in
theorem ggX4_go_X4_lengthenedTo : GoodIn wsX4_go wsX4_lengthenedTo := goodIn_r _ [11, 2, 12, 13, 14, 15, 16, 17, 18, 19, 20, 21, 22, 23, 24, 25, 26] (by decide +kernel) (by decide +kernel)
set_option maxRecDepth 20000 in
theorem gX4_go_X4_lengthenedTo : GoodIn wsX4_go (wsV RX4 18 RX4 yX4_lengthenedTo wsX4_lengthenedTo) := goodIn_app (goodIn_of _ (by decide +kernel)) ggX4_go_X4_lengthenedTo
theorem dX4_go_0 : decode cX4_go 0 = .ok (.iconst 0, 1) := by decide +kernel
theorem dX4_go_1 : decode cX4_go 1 = .ok (.istore_n 3, 1) := by decide +kernel
theorem dX4_go_2 : decode cX4_go 2 = .ok (.iload_n 3, 1) := by decide +kernel
theorem dX4_go_3 : decode cX4_go 3 = .ok (.iload_n 2, 1) := by decide +kernel
theorem dX4_go_4 : decode cX4_go 4 = .ok (.if_icmp .ge 54, 3) := by decide +kernel
theorem dX4_go_7 : decode cX4_go 7 = .ok (.iconst 0, 1) := by decide +kernel
theorem dX4_go_8 : decode cX4_go 8 = .ok (.istore 4, 2) := by decide +kernel
theorem dX4_go_10 : decode cX4_go 10 = .ok (.iload 4, 2) := by decide +kernel
theorem dX4_go_12 : decode cX4_go 12 = .ok (.bipush 6, 2) := by decide +kernel
theorem dX4_go_14 : decode cX4_go 14 = .ok (.if_icmp .ge 23, 3) := by decide +kernel
theorem dX4_go_17 : decode cX4_go 17 = .ok (.aload_n 0, 1) := by decide +kernel
theorem dX4_go_18 : decode cX4_go 18 = .ok (.getfield 15, 3) := by decide +kernel
theorem dX4_go_21 : decode cX4_go 21 = .ok (.iload 4, 2) := by decide +kernel
theorem dX4_go_23 : decode cX4_go 23 = .ok (.aload_n 0, 1) := by decide +kernel
theorem dX4_go_24 : decode cX4_go 24 = .ok (.aload_n 1, 1) := by decide +kernel
theorem dX4_go_25 : decode cX4_go 25 = .ok (.iload 4, 2) := by decide +kernel
theorem dX4_go_27 : decode cX4_go 27 = .ok (.invokevirtual 18, 3) := by decide +kernel
theorem dX4_go_30 : decode cX4_go 30 = .ok (.lastore, 1) := by decide +kernel
theorem dX4_go_31 : decode cX4_go 31 = .ok (.iinc 4 1, 3) := by decide +kernel
theorem dX4_go_34 : decode cX4_go 34 = .ok (.goto (-24), 3) := by decide +kernel
theorem dX4_go_37 : decode cX4_go 37 = .ok (.aload_n 0, 1) := by decide +kernel
theorem dX4_go_38 : decode cX4_go 38 = .ok (.getfield 15, 3) := by decide +kernel
theorem dX4_go_41 : decode cX4_go 41 = .ok (.iconst 0, 1) := by decide +kernel
theorem dX4_go_42 : decode cX4_go 42 = .ok (.aload_n 0, 1) := by decide +kernel
theorem dX4_go_43 : decode cX4_go 43 = .ok (.getfield 9, 3) := by decide +kernel
theorem dX4_go_46 : decode cX4_go 46 = .ok (.iconst 0, 1) := by decide +kernel
theorem dX4_go_47 : decode cX4_go 47 = .ok (.bipush 6, 2) := by decide +kernel
theorem dX4_go_49 : decode cX4_go 49 = .ok (.invokestatic 22, 3) := by decide +kernel
theorem dX4_go_52 : decode cX4_go 52 = .ok (.iinc 3 1, 3) := by decide +kernel
theorem dX4_go_55 : decode cX4_go 55 = .ok (.goto (-53), 3) := by decide +kernel
theorem dX4_go_58 : decode cX4_go 58 = .ok (.return_, 1) := by decide +kernel
theorem dX4_endingAt_0 : decode cX4_endingAt 0 = .ok (.iload_n 1, 1) := by decide +kernel
theorem dX4_endingAt_1 : decode cX4_endingAt 1 = .ok (.ifCond .lt 18, 3) := by decide +kernel
theorem dX4_endingAt_4 : decode cX4_endingAt 4 = .ok (.iload_n 1, 1) := by decide +kernel
theorem dX4_endingAt_5 : decode cX4_endingAt 5 = .ok (.bipush 6, 2) := by decide +kernel
theorem dX4_endingAt_7 : decode cX4_endingAt 7 = .ok (.if_icmp .ge 12, 3) := by decide +kernel
theorem dX4_endingAt_10 : decode cX4_endingAt 10 = .ok (.aload_n 0, 1) := by decide +kernel
theorem dX4_endingAt_11 : decode cX4_endingAt 11 = .ok (.getfield 9, 3) := by decide +kernel
theorem dX4_endingAt_14 : decode cX4_endingAt 14 = .ok (.iload_n 1, 1) := by decide +kernel
theorem dX4_endingAt_15 : decode cX4_endingAt 15 = .ok (.laload, 1) := by decide +kernel
theorem dX4_endingAt_16 : decode cX4_endingAt 16 = .ok (.goto 4, 3) := by decide +kernel
theorem dX4_endingAt_19 : decode cX4_endingAt 19 = .ok (.lconst 0, 1) := by decide +kernel
theorem dX4_endingAt_20 : decode cX4_endingAt 20 = .ok (.lreturn, 1) := by decide +kernel
theorem dX4_endingAnywhere_0 : decode cX4_endingAnywhere 0 = .ok (.lconst 0, 1) := by decide +kernel
theorem dX4_endingAnywhere_1 : decode cX4_endingAnywhere 1 = .ok (.lstore_n 1, 1) := by decide +kernel
theorem dX4_endingAnywhere_2 : decode cX4_endingAnywhere 2 = .ok (.iconst 0, 1) := by decide +kernel
theorem dX4_endingAnywhere_3 : decode cX4_endingAnywhere 3 = .ok (.istore_n 3, 1) := by decide +kernel
theorem dX4_endingAnywhere_4 : decode cX4_endingAnywhere 4 = .ok (.iload_n 3, 1) := by decide +kernel
theorem dX4_endingAnywhere_5 : decode cX4_endingAnywhere 5 = .ok (.bipush 6, 2) := by decide +kernel
theorem dX4_endingAnywhere_7 : decode cX4_endingAnywhere 7 = .ok (.if_icmp .ge 18, 3) := by decide +kernel
theorem dX4_endingAnywhere_10 : decode cX4_endingAnywhere 10 = .ok (.lload_n 1, 1) := by decide +kernel
theorem dX4_endingAnywhere_11 : decode cX4_endingAnywhere 11 = .ok (.aload_n 0, 1) := by decide +kernel
theorem dX4_endingAnywhere_12 : decode cX4_endingAnywhere 12 = .ok (.getfield 9, 3) := by decide +kernel
theorem dX4_endingAnywhere_15 : decode cX4_endingAnywhere 15 = .ok (.iload_n 3, 1) := by decide +kernel
theorem dX4_endingAnywhere_16 : decode cX4_endingAnywhere 16 = .ok (.laload, 1) := by decide +kernel
theorem dX4_endingAnywhere_17 : decode cX4_endingAnywhere 17 = .ok (.ladd, 1) := by decide +kernel
theorem dX4_endingAnywhere_18 : decode cX4_endingAnywhere 18 = .ok (.lstore_n 1, 1) := by decide +kernel
theorem dX4_endingAnywhere_19 : decode cX4_endingAnywhere 19 = .ok (.iinc 3 1, 3) := by decide +kernel
theorem dX4_endingAnywhere_22 : decode cX4_endingAnywhere 22 = .ok (.goto (-18), 3) := by decide +kernel
theorem dX4_endingAnywhere_25 : decode cX4_endingAnywhere 25 = .ok (.lload_n 1, 1) := by decide +kernel
theorem dX4_endingAnywhere_26 : decode cX4_endingAnywhere 26 = .ok (.lreturn, 1) := by decide +kernel
set_option maxRecDepth 20000 in
theorem ggX4_lengthenedTo_X2_cell : GoodIn wsX4_lengthenedTo wsX2_cell := goodIn_r _ [6, 7, 8, 9, 10, 5, 11, 12, 15, 16] (by decide +kernel) (by decide +kernel)
set_option maxRecDepth 20000 in
theorem gX4_lengthenedTo_X2_cell : GoodIn wsX4_lengthenedTo (wsV RX4 28 RX2 yX2_cell wsX2_cell) := goodIn_app (goodIn_of _ (by decide +kernel)) ggX4_lengthenedTo_X2_cell
theorem dX4_lengthenedTo_0 : decode cX4_lengthenedTo 0 = .ok (.lconst 0, 1) := by decide +kernel
theorem dX4_lengthenedTo_1 : decode cX4_lengthenedTo 1 = .ok (.lstore_n 3, 1) := by decide +kernel
theorem dX4_lengthenedTo_2 : decode cX4_lengthenedTo 2 = .ok (.iconst 0, 1) := by decide +kernel
theorem dX4_lengthenedTo_3 : decode cX4_lengthenedTo 3 = .ok (.istore 5, 2) := by decide +kernel
theorem dX4_lengthenedTo_5 : decode cX4_lengthenedTo 5 = .ok (.iload 5, 2) := by decide +kernel
theorem dX4_lengthenedTo_7 : decode cX4_lengthenedTo 7 = .ok (.bipush 6, 2) := by decide +kernel
theorem dX4_lengthenedTo_9 : decode cX4_lengthenedTo 9 = .ok (.if_icmp .ge 28, 3) := by decide +kernel
theorem dX4_lengthenedTo_12 : decode cX4_lengthenedTo 12 = .ok (.lload_n 3, 1) := by decide +kernel
theorem dX4_lengthenedTo_13 : decode cX4_lengthenedTo 13 = .ok (.aload_n 0, 1) := by decide +kernel
theorem dX4_lengthenedTo_14 : decode cX4_lengthenedTo 14 = .ok (.getfield 9, 3) := by decide +kernel
theorem dX4_lengthenedTo_17 : decode cX4_lengthenedTo 17 = .ok (.iload 5, 2) := by decide +kernel
theorem dX4_lengthenedTo_19 : decode cX4_lengthenedTo 19 = .ok (.laload, 1) := by decide +kernel
theorem dX4_lengthenedTo_20 : decode cX4_lengthenedTo 20 = .ok (.aload_n 1, 1) := by decide +kernel
theorem dX4_lengthenedTo_21 : decode cX4_lengthenedTo 21 = .ok (.iload 5, 2) := by decide +kernel
theorem dX4_lengthenedTo_23 : decode cX4_lengthenedTo 23 = .ok (.iload_n 2, 1) := by decide +kernel
theorem dX4_lengthenedTo_24 : decode cX4_lengthenedTo 24 = .ok (.invokevirtual 28, 3) := by decide +kernel
theorem dX4_lengthenedTo_27 : decode cX4_lengthenedTo 27 = .ok (.i2l, 1) := by decide +kernel
theorem dX4_lengthenedTo_28 : decode cX4_lengthenedTo 28 = .ok (.lmul, 1) := by decide +kernel
theorem dX4_lengthenedTo_29 : decode cX4_lengthenedTo 29 = .ok (.ladd, 1) := by decide +kernel
theorem dX4_lengthenedTo_30 : decode cX4_lengthenedTo 30 = .ok (.lstore_n 3, 1) := by decide +kernel
theorem dX4_lengthenedTo_31 : decode cX4_lengthenedTo 31 = .ok (.iinc 5 1, 3) := by decide +kernel
theorem dX4_lengthenedTo_34 : decode cX4_lengthenedTo 34 = .ok (.goto (-29), 3) := by decide +kernel
theorem dX4_lengthenedTo_37 : decode cX4_lengthenedTo 37 = .ok (.lload_n 3, 1) := by decide +kernel
theorem dX4_lengthenedTo_38 : decode cX4_lengthenedTo 38 = .ok (.lreturn, 1) := by decide +kernel
set_option maxRecDepth 20000 in
theorem ggX5_init_X2_init : GoodIn wsX5_init wsX2_init := goodIn_r _ [27, 28, 2, 3, 29, 22, 30, 75, 76] (by decide +kernel) (by decide +kernel)
set_option maxRecDepth 20000 in
theorem gX5_init_X2_init_n9 : GoodIn wsX5_init (wsX2_init) := ggX5_init_X2_init
set_option maxRecDepth 20000 in
theorem ggX5_init_X1_init : GoodIn wsX5_init wsX1_init := goodIn_r _ [33, 34, 2, 3, 35, 36, 37, 38, 39, 5, 6, 26, 27, 28, 29, 22, 30, 85, 86, 87, 88, 75, 76] (by decide +kernel) (by decide +kernel)
set_option maxRecDepth 20000 in
theorem gX5_init_X1_init : GoodIn wsX5_init (wsX1_init) := ggX5_init_X1_init
set_option maxRecDepth 20000 in
theorem ggX5_init_X4_init : GoodIn wsX5_init wsX4_init := goodIn_r _ [41, 42, 2, 3, 24, 43, 44, 89, 90] (by decide +kernel) (by decide +kernel)
set_option maxRecDepth 20000 in
theorem gX5_init_X4_init_n31 : GoodIn wsX5_init (wsX4_init) := ggX5_init_X4_init
set_option maxRecDepth 20000 in
theorem ggX5_init_X3_init : GoodIn wsX5_init wsX3_init := goodIn_r _ [46, 47, 2, 3, 48, 24, 49, 22, 50, 51, 91, 92, 93, 94] (by decide +kernel) (by decide +kernel)
set_option maxRecDepth 20000 in
theorem gX5_init_X3_init_n38 : GoodIn wsX5_init (wsX3_init) := ggX5_init_X3_init
set_option maxRecDepth 20000 in
theorem ggX5_init_X2_fill : GoodIn wsX5_init wsX2_fill := goodIn_r _ [55, 29, 56, 57, 58, 6, 59, 60, 61, 62, 63, 64, 65, 66, 67, 68, 69, 70, 30, 71, 72, 73, 74, 75, 76] (by decide +kernel) (by decide +kernel)
set_option maxRecDepth 20000 in
theorem gX5_init_X2_fill : GoodIn wsX5_init (wsV RX5 51 RX2 yX2_fill wsX2_fill) := goodIn_app (goodIn_of _ (by decide +kernel)) ggX5_init_X2_fill
theorem dX5_init_0 : decode cX5_init 0 = .ok (.aload_n 0, 1) := by decide +kernel
theorem dX5_init_1 : decode cX5_init 1 = .ok (.invokespecial 1, 3) := by decide +kernel
theorem dX5_init_4 : decode cX5_init 4 = .ok (.aload_n 0, 1) := by decide +kernel
theorem dX5_init_5 : decode cX5_init 5 = .ok (.new 7, 3) := by decide +kernel
theorem dX5_init_8 : decode cX5_init 8 = .ok (.dup, 1) := by decide +kernel
theorem dX5_init_9 : decode cX5_init 9 = .ok (.invokespecial 9, 3) := by decide +kernel
theorem dX5_init_12 : decode cX5_init 12 = .ok (.putfield 10, 3) := by decide +kernel
theorem dX5_init_15 : decode cX5_init 15 = .ok (.aload_n 0, 1) := by decide +kernel
theorem dX5_init_16 : decode cX5_init 16 = .ok (.new 7, 3) := by decide +kernel
theorem dX5_init_19 : decode cX5_init 19 = .ok (.dup, 1) := by decide +kernel
theorem dX5_init_20 : decode cX5_init 20 = .ok (.invokespecial 9, 3) := by decide +kernel
theorem dX5_init_23 : decode cX5_init 23 = .ok (.putfield 16, 3) := by decide +kernel
theorem dX5_init_26 : decode cX5_init 26 = .ok (.aload_n 0, 1) := by decide +kernel
theorem dX5_init_27 : decode cX5_init 27 = .ok (.new 7, 3) := by decide +kernel
theorem dX5_init_30 : decode cX5_init 30 = .ok (.dup, 1) := by decide +kernel
theorem dX5_init_31 : decode cX5_init 31 = .ok (.invokespecial 9, 3) := by decide +kernel
theorem dX5_init_34 : decode cX5_init 34 = .ok (.putfield 19, 3) := by decide +kernel
theorem dX5_init_37 : decode cX5_init 37 = .ok (.aload_n 0, 1) := by decide +kernel
theorem dX5_init_38 : decode cX5_init 38 = .ok (.new 22, 3) := by decide +kernel
theorem dX5_init_41 : decode cX5_init 41 = .ok (.dup, 1) := by decide +kernel
theorem dX5_init_42 : decode cX5_init 42 = .ok (.invokespecial 24, 3) := by decide +kernel
theorem dX5_init_45 : decode cX5_init 45 = .ok (.putfield 25, 3) := by decide +kernel
theorem dX5_init_48 : decode cX5_init 48 = .ok (.aload_n 0, 1) := by decide +kernel
theorem dX5_init_49 : decode cX5_init 49 = .ok (.new 29, 3) := by decide +kernel
theorem dX5_init_52 : decode cX5_init 52 = .ok (.dup, 1) := by decide +kernel
theorem dX5_init_53 : decode cX5_init 53 = .ok (.invokespecial 31, 3) := by decide +kernel
theorem dX5_init_56 : decode cX5_init 56 = .ok (.putfield 32, 3) := by decide +kernel
theorem dX5_init_59 : decode cX5_init 59 = .ok (.aload_n 0, 1) := by decide +kernel
theorem dX5_init_60 : decode cX5_init 60 = .ok (.new 36, 3) := by decide +kernel
theorem dX5_init_63 : decode cX5_init 63 = .ok (.dup, 1) := by decide +kernel
theorem dX5_init_64 : decode cX5_init 64 = .ok (.invokespecial 38, 3) := by decide +kernel
theorem dX5_init_67 : decode cX5_init 67 = .ok (.putfield 39, 3) := by decide +kernel
theorem dX5_init_70 : decode cX5_init 70 = .ok (.aload_n 0, 1) := by decide +kernel
theorem dX5_init_71 : decode cX5_init 71 = .ok (.bipush 6, 2) := by decide +kernel
theorem dX5_init_73 : decode cX5_init 73 = .ok (.newarray .int, 2) := by decide +kernel
theorem dX5_init_75 : decode cX5_init 75 = .ok (.putfield 43, 3) := by decide +kernel
theorem dX5_init_78 : decode cX5_init 78 = .ok (.aload_n 0, 1) := by decide +kernel
theorem dX5_init_79 : decode cX5_init 79 = .ok (.bipush 9, 2) := by decide +kernel
theorem dX5_init_81 : decode cX5_init 81 = .ok (.newarray .long, 2) := by decide +kernel
theorem dX5_init_83 : decode cX5_init 83 = .ok (.putfield 47, 3) := by decide +kernel
theorem dX5_init_86 : decode cX5_init 86 = .ok (.aload_n 0, 1) := by decide +kernel
theorem dX5_init_87 : decode cX5_init 87 = .ok (.getfield 10, 3) := by decide +kernel
theorem dX5_init_90 : decode cX5_init 90 = .ok (.iconst 2, 1) := by decide +kernel
theorem dX5_init_91 : decode cX5_init 91 = .ok (.iconst 1, 1) := by decide +kernel
theorem dX5_init_92 : decode cX5_init 92 = .ok (.invokevirtual 51, 3) := by decide +kernel
theorem dX5_init_95 : decode cX5_init 95 = .ok (.aload_n 0, 1) := by decide +kernel
theorem dX5_init_96 : decode cX5_init 96 = .ok (.getfield 16, 3) := by decide +kernel
theorem dX5_init_99 : decode cX5_init 99 = .ok (.iconst 2, 1) := by decide +kernel
theorem dX5_init_100 : decode cX5_init 100 = .ok (.iconst 1, 1) := by decide +kernel
theorem dX5_init_101 : decode cX5_init 101 = .ok (.invokevirtual 51, 3) := by decide +kernel
theorem dX5_init_104 : decode cX5_init 104 = .ok (.return_, 1) := by decide +kernel
set_option maxRecDepth 20000 in
theorem ggX5_reset_X5_isWithin : GoodIn wsX5_reset wsX5_isWithin := goodIn_r _ [8] (by decide +kernel) (by decide +kernel)
set_option maxRecDepth 20000 in
theorem gX5_reset_X5_isWithin : GoodIn wsX5_reset (va_wsS RX5 55 yX5_isWithin wsX5_isWithin) := goodIn_app (goodIn_of _ (by decide +kernel)) ggX5_reset_X5_isWithin
set_option maxRecDepth 20000 in
theorem ggX5_reset_X2_order : GoodIn wsX5_reset wsX2_order := goodIn_r _ [13, 14, 65, 66] (by decide +kernel) (by decide +kernel)
set_option maxRecDepth 20000 in
theorem gX5_reset_X2_order : GoodIn wsX5_reset (wsV RX5 60 RX2 yX2_order wsX2_order) := goodIn_app (goodIn_of _ (by decide +kernel)) ggX5_reset_X2_order
set_option maxRecDepth 20000 in
theorem ggX5_reset_X1_remember : GoodIn wsX5_reset wsX1_remember := goodIn_r _ [19, 20, 21, 22, 23, 24, 25, 26, 27, 28, 29, 30, 12, 31, 14, 32, 33, 34, 35, 36, 37, 38, 39, 40, 41, 42, 43, 44, 45, 46, 47, 48, 49, 50, 51, 52, 67, 68, 69, 70, 65, 66] (by decide +kernel) (by decide +kernel)
set_option maxRecDepth 20000 in
theorem gX5_reset_X1_remember : GoodIn wsX5_reset (wsV RX5 64 RX1 yX1_remember wsX1_remember) := goodIn_app (goodIn_of _ (by decide +kernel)) ggX5_reset_X1_remember
set_option maxRecDepth 20000 in
theorem ggX5_reset_X2_fill : GoodIn wsX5_reset wsX2_fill := goodIn_r _ [56, 14, 32, 33, 34, 12, 35, 36, 23, 24, 25, 37, 38, 39, 49, 50, 51, 52, 44, 45, 46, 47, 48, 65, 66] (by decide +kernel) (by decide +kernel)
set_option maxRecDepth 20000 in
theorem gX5_reset_X2_fill : GoodIn wsX5_reset (wsV RX5 51 RX2 yX2_fill wsX2_fill) := goodIn_app (goodIn_of _ (by decide +kernel)) ggX5_reset_X2_fill
theorem dX5_reset_0 : decode cX5_reset 0 = .ok (.iload_n 1, 1) := by decide +kernel
theorem dX5_reset_1 : decode cX5_reset 1 = .ok (.iconst 1, 1) := by decide +kernel
theorem dX5_reset_2 : decode cX5_reset 2 = .ok (.bipush 6, 2) := by decide +kernel
theorem dX5_reset_4 : decode cX5_reset 4 = .ok (.invokestatic 55, 3) := by decide +kernel
theorem dX5_reset_7 : decode cX5_reset 7 = .ok (.ifCond .ne 6, 3) := by decide +kernel
theorem dX5_reset_10 : decode cX5_reset 10 = .ok (.ldc 59, 2) := by decide +kernel
theorem dX5_reset_12 : decode cX5_reset 12 = .ok (.ireturn, 1) := by decide +kernel
theorem dX5_reset_13 : decode cX5_reset 13 = .ok (.aload_n 0, 1) := by decide +kernel
theorem dX5_reset_14 : decode cX5_reset 14 = .ok (.getfield 10, 3) := by decide +kernel
theorem dX5_reset_17 : decode cX5_reset 17 = .ok (.invokevirtual 60, 3) := by decide +kernel
theorem dX5_reset_20 : decode cX5_reset 20 = .ok (.istore_n 2, 1) := by decide +kernel
theorem dX5_reset_21 : decode cX5_reset 21 = .ok (.aload_n 0, 1) := by decide +kernel
theorem dX5_reset_22 : decode cX5_reset 22 = .ok (.getfield 25, 3) := by decide +kernel
theorem dX5_reset_25 : decode cX5_reset 25 = .ok (.aload_n 0, 1) := by decide +kernel
theorem dX5_reset_26 : decode cX5_reset 26 = .ok (.getfield 10, 3) := by decide +kernel
theorem dX5_reset_29 : decode cX5_reset 29 = .ok (.aload_n 0, 1) := by decide +kernel
theorem dX5_reset_30 : decode cX5_reset 30 = .ok (.getfield 16, 3) := by decide +kernel
theorem dX5_reset_33 : decode cX5_reset 33 = .ok (.invokevirtual 64, 3) := by decide +kernel
theorem dX5_reset_36 : decode cX5_reset 36 = .ok (.aload_n 0, 1) := by decide +kernel
theorem dX5_reset_37 : decode cX5_reset 37 = .ok (.getfield 10, 3) := by decide +kernel
theorem dX5_reset_40 : decode cX5_reset 40 = .ok (.iload_n 1, 1) := by decide +kernel
theorem dX5_reset_41 : decode cX5_reset 41 = .ok (.iconst 0, 1) := by decide +kernel
theorem dX5_reset_42 : decode cX5_reset 42 = .ok (.invokevirtual 51, 3) := by decide +kernel
theorem dX5_reset_45 : decode cX5_reset 45 = .ok (.iload_n 2, 1) := by decide +kernel
theorem dX5_reset_46 : decode cX5_reset 46 = .ok (.ireturn, 1) := by decide +kernel
set_option maxRecDepth 20000 in
theorem ggX5_setEntry_X2_has : GoodIn wsX5_setEntry wsX2_has := goodIn_r _ [9, 10, 60, 61] (by decide +kernel) (by decide +kernel)
set_option maxRecDepth 20000 in
theorem gX5_setEntry_X2_has : GoodIn wsX5_setEntry (wsV RX5 68 RX2 yX2_has wsX2_has) := goodIn_app (goodIn_of _ (by decide +kernel)) ggX5_setEntry_X2_has
set_option maxRecDepth 20000 in
theorem ggX5_setEntry_X5_isWithin : GoodIn wsX5_setEntry wsX5_isWithin := goodIn_r _ [14] (by decide +kernel) (by decide +kernel)
set_option maxRecDepth 20000 in
theorem gX5_setEntry_X5_isWithin : GoodIn wsX5_setEntry (va_wsS RX5 55 yX5_isWithin wsX5_isWithin) := goodIn_app (goodIn_of _ (by decide +kernel)) ggX5_setEntry_X5_isWithin
set_option maxRecDepth 20000 in
theorem ggX5_setEntry_X2_cell : GoodIn wsX5_setEntry wsX2_cell := goodIn_r _ [18, 19, 20, 6, 7, 8, 9, 10, 60, 61] (by decide +kernel) (by decide +kernel)
set_option maxRecDepth 20000 in
theorem gX5_setEntry_X2_cell : GoodIn wsX5_setEntry (wsV RX5 72 RX2 yX2_cell wsX2_cell) := goodIn_app (goodIn_of _ (by decide +kernel)) ggX5_setEntry_X2_cell
set_option maxRecDepth 20000 in
theorem ggX5_setEntry_X1_remember : GoodIn wsX5_setEntry wsX1_remember := goodIn_r _ [25, 26, 27, 28, 29, 30, 31, 32, 33, 34, 35, 36, 8, 37, 10, 38, 39, 40, 41, 42, 43, 44, 45, 46, 16, 17, 18, 19, 20, 6, 7, 9, 47, 48, 49, 50, 62, 63, 64, 65, 60, 61] (by decide +kernel) (by decide +kernel)
set_option maxRecDepth 20000 in
theorem gX5_setEntry_X1_remember : GoodIn wsX5_setEntry (wsV RX5 64 RX1 yX1_remember wsX1_remember) := goodIn_app (goodIn_of _ (by decide +kernel)) ggX5_setEntry_X1_remember
set_option maxRecDepth 20000 in
theorem ggX5_setEntry_X2_put : GoodIn wsX5_setEntry wsX2_put := goodIn_r _ [50, 19, 20, 6, 7, 8, 9, 10, 60, 61] (by decide +kernel) (by decide +kernel)
set_option maxRecDepth 20000 in
theorem gX5_setEntry_X2_put : GoodIn wsX5_setEntry (wsV RX5 76 RX2 yX2_put wsX2_put) := goodIn_app (goodIn_of _ (by decide +kernel)) ggX5_setEntry_X2_put
theorem dX5_setEntry_0 : decode cX5_setEntry 0 = .ok (.aload_n 0, 1) := by decide +kernel
theorem dX5_setEntry_1 : decode cX5_setEntry 1 = .ok (.getfield 10, 3) := by decide +kernel
theorem dX5_setEntry_4 : decode cX5_setEntry 4 = .ok (.iload_n 1, 1) := by decide +kernel
theorem dX5_setEntry_5 : decode cX5_setEntry 5 = .ok (.invokevirtual 68, 3) := by decide +kernel
theorem dX5_setEntry_8 : decode cX5_setEntry 8 = .ok (.ifCond .eq 24, 3) := by decide +kernel
theorem dX5_setEntry_11 : decode cX5_setEntry 11 = .ok (.aload_n 0, 1) := by decide +kernel
theorem dX5_setEntry_12 : decode cX5_setEntry 12 = .ok (.getfield 10, 3) := by decide +kernel
theorem dX5_setEntry_15 : decode cX5_setEntry 15 = .ok (.iload_n 2, 1) := by decide +kernel
theorem dX5_setEntry_16 : decode cX5_setEntry 16 = .ok (.invokevirtual 68, 3) := by decide +kernel
theorem dX5_setEntry_19 : decode cX5_setEntry 19 = .ok (.ifCond .eq 13, 3) := by decide +kernel
theorem dX5_setEntry_22 : decode cX5_setEntry 22 = .ok (.iload_n 3, 1) := by decide +kernel
theorem dX5_setEntry_23 : decode cX5_setEntry 23 = .ok (.iconst 0, 1) := by decide +kernel
theorem dX5_setEntry_24 : decode cX5_setEntry 24 = .ok (.bipush 9, 2) := by decide +kernel
theorem dX5_setEntry_26 : decode cX5_setEntry 26 = .ok (.invokestatic 55, 3) := by decide +kernel
theorem dX5_setEntry_29 : decode cX5_setEntry 29 = .ok (.ifCond .ne 6, 3) := by decide +kernel
theorem dX5_setEntry_32 : decode cX5_setEntry 32 = .ok (.ldc 59, 2) := by decide +kernel
theorem dX5_setEntry_34 : decode cX5_setEntry 34 = .ok (.ireturn, 1) := by decide +kernel
theorem dX5_setEntry_35 : decode cX5_setEntry 35 = .ok (.aload_n 0, 1) := by decide +kernel
theorem dX5_setEntry_36 : decode cX5_setEntry 36 = .ok (.getfield 10, 3) := by decide +kernel
theorem dX5_setEntry_39 : decode cX5_setEntry 39 = .ok (.iload_n 1, 1) := by decide +kernel
theorem dX5_setEntry_40 : decode cX5_setEntry 40 = .ok (.iload_n 2, 1) := by decide +kernel
theorem dX5_setEntry_41 : decode cX5_setEntry 41 = .ok (.invokevirtual 72, 3) := by decide +kernel
theorem dX5_setEntry_44 : decode cX5_setEntry 44 = .ok (.istore 4, 2) := by decide +kernel
theorem dX5_setEntry_46 : decode cX5_setEntry 46 = .ok (.aload_n 0, 1) := by decide +kernel
theorem dX5_setEntry_47 : decode cX5_setEntry 47 = .ok (.getfield 25, 3) := by decide +kernel
theorem dX5_setEntry_50 : decode cX5_setEntry 50 = .ok (.aload_n 0, 1) := by decide +kernel
theorem dX5_setEntry_51 : decode cX5_setEntry 51 = .ok (.getfield 10, 3) := by decide +kernel
theorem dX5_setEntry_54 : decode cX5_setEntry 54 = .ok (.aload_n 0, 1) := by decide +kernel
theorem dX5_setEntry_55 : decode cX5_setEntry 55 = .ok (.getfield 16, 3) := by decide +kernel
theorem dX5_setEntry_58 : decode cX5_setEntry 58 = .ok (.invokevirtual 64, 3) := by decide +kernel
theorem dX5_setEntry_61 : decode cX5_setEntry 61 = .ok (.aload_n 0, 1) := by decide +kernel
theorem dX5_setEntry_62 : decode cX5_setEntry 62 = .ok (.getfield 10, 3) := by decide +kernel
theorem dX5_setEntry_65 : decode cX5_setEntry 65 = .ok (.iload_n 1, 1) := by decide +kernel
theorem dX5_setEntry_66 : decode cX5_setEntry 66 = .ok (.iload_n 2, 1) := by decide +kernel
theorem dX5_setEntry_67 : decode cX5_setEntry 67 = .ok (.iload_n 3, 1) := by decide +kernel
theorem dX5_setEntry_68 : decode cX5_setEntry 68 = .ok (.invokevirtual 76, 3) := by decide +kernel
theorem dX5_setEntry_71 : decode cX5_setEntry 71 = .ok (.iload 4, 2) := by decide +kernel
theorem dX5_setEntry_73 : decode cX5_setEntry 73 = .ok (.ireturn, 1) := by decide +kernel
set_option maxRecDepth 20000 in
theorem ggX5_entry_X2_has : GoodIn wsX5_entry wsX2_has := goodIn_r _ [7, 8, 23, 24] (by decide +kernel) (by decide +kernel)
set_option maxRecDepth 20000 in
theorem gX5_entry_X2_has : GoodIn wsX5_entry (wsV RX5 68 RX2 yX2_has wsX2_has) := goodIn_app (goodIn_of _ (by decide +kernel)) ggX5_entry_X2_has
set_option maxRecDepth 20000 in
theorem ggX5_entry_X2_cell : GoodIn wsX5_entry wsX2_cell := goodIn_r _ [12, 13, 14, 4, 5, 6, 7, 8, 23, 24] (by decide +kernel) (by decide +kernel)
set_option maxRecDepth 20000 in
theorem gX5_entry_X2_cell : GoodIn wsX5_entry (wsV RX5 72 RX2 yX2_cell wsX2_cell) := goodIn_app (goodIn_of _ (by decide +kernel)) ggX5_entry_X2_cell
theorem dX5_entry_0 : decode cX5_entry 0 = .ok (.aload_n 0, 1) := by decide +kernel
theorem dX5_entry_1 : decode cX5_entry 1 = .ok (.getfield 10, 3) := by decide +kernel
theorem dX5_entry_4 : decode cX5_entry 4 = .ok (.iload_n 1, 1) := by decide +kernel
theorem dX5_entry_5 : decode cX5_entry 5 = .ok (.invokevirtual 68, 3) := by decide +kernel
theorem dX5_entry_8 : decode cX5_entry 8 = .ok (.ifCond .eq 14, 3) := by decide +kernel
theorem dX5_entry_11 : decode cX5_entry 11 = .ok (.aload_n 0, 1) := by decide +kernel
theorem dX5_entry_12 : decode cX5_entry 12 = .ok (.getfield 10, 3) := by decide +kernel
theorem dX5_entry_15 : decode cX5_entry 15 = .ok (.iload_n 2, 1) := by decide +kernel
theorem dX5_entry_16 : decode cX5_entry 16 = .ok (.invokevirtual 68, 3) := by decide +kernel
theorem dX5_entry_19 : decode cX5_entry 19 = .ok (.ifCond .ne 6, 3) := by decide +kernel
theorem dX5_entry_22 : decode cX5_entry 22 = .ok (.ldc 59, 2) := by decide +kernel
theorem dX5_entry_24 : decode cX5_entry 24 = .ok (.ireturn, 1) := by decide +kernel
theorem dX5_entry_25 : decode cX5_entry 25 = .ok (.aload_n 0, 1) := by decide +kernel
theorem dX5_entry_26 : decode cX5_entry 26 = .ok (.getfield 10, 3) := by decide +kernel
theorem dX5_entry_29 : decode cX5_entry 29 = .ok (.iload_n 1, 1) := by decide +kernel
theorem dX5_entry_30 : decode cX5_entry 30 = .ok (.iload_n 2, 1) := by decide +kernel
theorem dX5_entry_31 : decode cX5_entry 31 = .ok (.invokevirtual 72, 3) := by decide +kernel
theorem dX5_entry_34 : decode cX5_entry 34 = .ok (.ireturn, 1) := by decide +kernel
set_option maxRecDepth 20000 in
theorem ggX5_size_X2_order : GoodIn wsX5_size wsX2_order := goodIn_r _ [6, 7, 16, 17] (by decide +kernel) (by decide +kernel)
set_option maxRecDepth 20000 in
theorem gX5_size_X2_order : GoodIn wsX5_size (wsV RX5 60 RX2 yX2_order wsX2_order) := goodIn_app (goodIn_of _ (by decide +kernel)) ggX5_size_X2_order
theorem dX5_size_0 : decode cX5_size 0 = .ok (.aload_n 0, 1) := by decide +kernel
theorem dX5_size_1 : decode cX5_size 1 = .ok (.getfield 10, 3) := by decide +kernel
theorem dX5_size_4 : decode cX5_size 4 = .ok (.invokevirtual 60, 3) := by decide +kernel
theorem dX5_size_7 : decode cX5_size 7 = .ok (.ireturn, 1) := by decide +kernel
set_option maxRecDepth 20000 in
theorem ggX5_essentialStates_X0_essentialSet : GoodIn wsX5_essentialStates wsX0_essentialSet := goodIn_r _ [5, 6, 7, 4, 8, 9, 10, 11, 12, 13, 14, 15, 16, 17, 18, 19, 20, 21, 22, 23, 24, 25, 26, 27, 28, 29, 30, 31, 32, 41, 42] (by decide +kernel) (by decide +kernel)
set_option maxRecDepth 20000 in
theorem gX5_essentialStates_X0_essentialSet : GoodIn wsX5_essentialStates (va_wsS RX5 80 yX0_essentialSet wsX0_essentialSet) := goodIn_app (goodIn_of _ (by decide +kernel)) ggX5_essentialStates_X0_essentialSet
theorem dX5_essentialStates_0 : decode cX5_essentialStates 0 = .ok (.aload_n 0, 1) := by decide +kernel
theorem dX5_essentialStates_1 : decode cX5_essentialStates 1 = .ok (.getfield 10, 3) := by decide +kernel
theorem dX5_essentialStates_4 : decode cX5_essentialStates 4 = .ok (.invokestatic 80, 3) := by decide +kernel
theorem dX5_essentialStates_7 : decode cX5_essentialStates 7 = .ok (.ireturn, 1) := by decide +kernel
set_option maxRecDepth 20000 in
theorem ggX5_trim_X0_essentialSet : GoodIn wsX5_trim wsX0_essentialSet := goodIn_r _ [8, 9, 10, 7, 11, 12, 13, 14, 15, 16, 17, 18, 19, 20, 21, 22, 23, 24, 25, 26, 27, 28, 29, 30, 31, 32, 33, 34, 35, 79, 80] (by decide +kernel) (by decide +kernel)
set_option maxRecDepth 20000 in
theorem gX5_trim_X0_essentialSet : GoodIn wsX5_trim (va_wsS RX5 80 yX0_essentialSet wsX0_essentialSet) := goodIn_app (goodIn_of _ (by decide +kernel)) ggX5_trim_X0_essentialSet
set_option maxRecDepth 20000 in
theorem ggX5_trim_X2_order : GoodIn wsX5_trim wsX2_order := goodIn_r _ [16, 17, 79, 80] (by decide +kernel) (by decide +kernel)
set_option maxRecDepth 20000 in
theorem gX5_trim_X2_order : GoodIn wsX5_trim (wsV RX5 60 RX2 yX2_order wsX2_order) := goodIn_app (goodIn_of _ (by decide +kernel)) ggX5_trim_X2_order
set_option maxRecDepth 20000 in
theorem ggX5_trim_X1_remember : GoodIn wsX5_trim wsX1_remember := goodIn_r _ [41, 42, 43, 44, 45, 46, 47, 48, 49, 50, 51, 52, 15, 53, 17, 54, 55, 56, 57, 58, 59, 60, 61, 62, 25, 26, 27, 28, 29, 30, 31, 32, 63, 64, 65, 66, 81, 82, 83, 84, 79, 80] (by decide +kernel) (by decide +kernel)
set_option maxRecDepth 20000 in
theorem gX5_trim_X1_remember : GoodIn wsX5_trim (wsV RX5 64 RX1 yX1_remember wsX1_remember) := goodIn_app (goodIn_of _ (by decide +kernel)) ggX5_trim_X1_remember
set_option maxRecDepth 20000 in
theorem ggX5_trim_X2_remove : GoodIn wsX5_trim wsX2_remove := goodIn_r _ [70, 17, 62, 25, 26, 15, 27, 28, 29, 30, 31, 32, 63, 64, 65, 66, 54, 55, 56, 57, 58, 45, 46, 47, 59, 60, 61, 79, 80] (by decide +kernel) (by decide +kernel)
set_option maxRecDepth 20000 in
theorem gX5_trim_X2_remove : GoodIn wsX5_trim (wsV RX5 87 RX2 yX2_remove wsX2_remove) := goodIn_app (goodIn_of _ (by decide +kernel)) ggX5_trim_X2_remove
theorem dX5_trim_0 : decode cX5_trim 0 = .ok (.aload_n 0, 1) := by decide +kernel
theorem dX5_trim_1 : decode cX5_trim 1 = .ok (.getfield 10, 3) := by decide +kernel
theorem dX5_trim_4 : decode cX5_trim 4 = .ok (.invokestatic 80, 3) := by decide +kernel
theorem dX5_trim_7 : decode cX5_trim 7 = .ok (.istore_n 1, 1) := by decide +kernel
theorem dX5_trim_8 : decode cX5_trim 8 = .ok (.iload_n 1, 1) := by decide +kernel
theorem dX5_trim_9 : decode cX5_trim 9 = .ok (.ifCond .ne 6, 3) := by decide +kernel
theorem dX5_trim_12 : decode cX5_trim 12 = .ok (.ldc 86, 2) := by decide +kernel
theorem dX5_trim_14 : decode cX5_trim 14 = .ok (.ireturn, 1) := by decide +kernel
theorem dX5_trim_15 : decode cX5_trim 15 = .ok (.aload_n 0, 1) := by decide +kernel
theorem dX5_trim_16 : decode cX5_trim 16 = .ok (.getfield 10, 3) := by decide +kernel
theorem dX5_trim_19 : decode cX5_trim 19 = .ok (.invokevirtual 60, 3) := by decide +kernel
theorem dX5_trim_22 : decode cX5_trim 22 = .ok (.istore_n 2, 1) := by decide +kernel
theorem dX5_trim_23 : decode cX5_trim 23 = .ok (.aload_n 0, 1) := by decide +kernel
theorem dX5_trim_24 : decode cX5_trim 24 = .ok (.getfield 25, 3) := by decide +kernel
theorem dX5_trim_27 : decode cX5_trim 27 = .ok (.aload_n 0, 1) := by decide +kernel
theorem dX5_trim_28 : decode cX5_trim 28 = .ok (.getfield 10, 3) := by decide +kernel
theorem dX5_trim_31 : decode cX5_trim 31 = .ok (.aload_n 0, 1) := by decide +kernel
theorem dX5_trim_32 : decode cX5_trim 32 = .ok (.getfield 16, 3) := by decide +kernel
theorem dX5_trim_35 : decode cX5_trim 35 = .ok (.invokevirtual 64, 3) := by decide +kernel
theorem dX5_trim_38 : decode cX5_trim 38 = .ok (.iload_n 2, 1) := by decide +kernel
theorem dX5_trim_39 : decode cX5_trim 39 = .ok (.iconst 1, 1) := by decide +kernel
theorem dX5_trim_40 : decode cX5_trim 40 = .ok (.isub, 1) := by decide +kernel
theorem dX5_trim_41 : decode cX5_trim 41 = .ok (.istore_n 3, 1) := by decide +kernel
theorem dX5_trim_42 : decode cX5_trim 42 = .ok (.iload_n 3, 1) := by decide +kernel
theorem dX5_trim_43 : decode cX5_trim 43 = .ok (.ifCond .lt 25, 3) := by decide +kernel
theorem dX5_trim_46 : decode cX5_trim 46 = .ok (.iload_n 1, 1) := by decide +kernel
theorem dX5_trim_47 : decode cX5_trim 47 = .ok (.iload_n 3, 1) := by decide +kernel
theorem dX5_trim_48 : decode cX5_trim 48 = .ok (.ishr, 1) := by decide +kernel
theorem dX5_trim_49 : decode cX5_trim 49 = .ok (.iconst 1, 1) := by decide +kernel
theorem dX5_trim_50 : decode cX5_trim 50 = .ok (.iand, 1) := by decide +kernel
theorem dX5_trim_51 : decode cX5_trim 51 = .ok (.ifCond .ne 11, 3) := by decide +kernel
theorem dX5_trim_54 : decode cX5_trim 54 = .ok (.aload_n 0, 1) := by decide +kernel
theorem dX5_trim_55 : decode cX5_trim 55 = .ok (.getfield 10, 3) := by decide +kernel
theorem dX5_trim_58 : decode cX5_trim 58 = .ok (.iload_n 3, 1) := by decide +kernel
theorem dX5_trim_59 : decode cX5_trim 59 = .ok (.invokevirtual 87, 3) := by decide +kernel
theorem dX5_trim_62 : decode cX5_trim 62 = .ok (.iinc 3 (-1), 3) := by decide +kernel
theorem dX5_trim_65 : decode cX5_trim 65 = .ok (.goto (-23), 3) := by decide +kernel
theorem dX5_trim_68 : decode cX5_trim 68 = .ok (.iload_n 2, 1) := by decide +kernel
theorem dX5_trim_69 : decode cX5_trim 69 = .ok (.aload_n 0, 1) := by decide +kernel
theorem dX5_trim_70 : decode cX5_trim 70 = .ok (.getfield 10, 3) := by decide +kernel
theorem dX5_trim_73 : decode cX5_trim 73 = .ok (.invokevirtual 60, 3) := by decide +kernel
theorem dX5_trim_76 : decode cX5_trim 76 = .ok (.isub, 1) := by decide +kernel
theorem dX5_trim_77 : decode cX5_trim 77 = .ok (.ireturn, 1) := by decide +kernel
set_option maxRecDepth 20000 in
theorem ggX5_paths_X2_has : GoodIn wsX5_paths wsX2_has := goodIn_r _ [8, 9, 51, 52] (by decide +kernel) (by decide +kernel)
set_option maxRecDepth 20000 in
theorem gX5_paths_X2_has : GoodIn wsX5_paths (wsV RX5 68 RX2 yX2_has wsX2_has) := goodIn_app (goodIn_of _ (by decide +kernel)) ggX5_paths_X2_has
set_option maxRecDepth 20000 in
theorem ggX5_paths_X5_isWithin : GoodIn wsX5_paths wsX5_isWithin := goodIn_r _ [13] (by decide +kernel) (by decide +kernel)
set_option maxRecDepth 20000 in
theorem gX5_paths_X5_isWithin : GoodIn wsX5_paths (va_wsS RX5 55 yX5_isWithin wsX5_isWithin) := goodIn_app (goodIn_of _ (by decide +kernel)) ggX5_paths_X5_isWithin
set_option maxRecDepth 20000 in
theorem ggX5_paths_X4_beginAt : GoodIn wsX5_paths wsX4_beginAt := goodIn_r _ [18, 19, 53, 54] (by decide +kernel) (by decide +kernel)
set_option maxRecDepth 20000 in
theorem gX5_paths_X4_beginAt : GoodIn wsX5_paths (wsV RX5 93 RX4 yX4_beginAt wsX4_beginAt) := goodIn_app (goodIn_of _ (by decide +kernel)) ggX5_paths_X4_beginAt
set_option maxRecDepth 20000 in
theorem ggX5_paths_X4_go : GoodIn wsX5_paths wsX4_go := goodIn_r _ [23, 24, 19, 25, 26, 27, 28, 29, 30, 31, 17, 32, 33, 34, 35, 7, 36, 37, 38, 5, 6, 8, 9, 53, 54, 51, 52] (by decide +kernel) (by decide +kernel)
set_option maxRecDepth 20000 in
theorem gX5_paths_X4_go : GoodIn wsX5_paths (wsV RX5 96 RX4 yX4_go wsX4_go) := goodIn_app (goodIn_of _ (by decide +kernel)) ggX5_paths_X4_go
set_option maxRecDepth 20000 in
theorem ggX5_paths_X4_endingAt : GoodIn wsX5_paths wsX4_endingAt := goodIn_r _ [42, 19, 53, 54] (by decide +kernel) (by decide +kernel)
set_option maxRecDepth 20000 in
theorem gX5_paths_X4_endingAt : GoodIn wsX5_paths (wsV RX5 100 RX4 yX4_endingAt wsX4_endingAt) := goodIn_app (goodIn_of _ (by decide +kernel)) ggX5_paths_X4_endingAt
theorem dX5_paths_0 : decode cX5_paths 0 = .ok (.aload_n 0, 1) := by decide +kernel
theorem dX5_paths_1 : decode cX5_paths 1 = .ok (.getfield 10, 3) := by decide +kernel
theorem dX5_paths_4 : decode cX5_paths 4 = .ok (.iload_n 1, 1) := by decide +kernel
theorem dX5_paths_5 : decode cX5_paths 5 = .ok (.invokevirtual 68, 3) := by decide +kernel
theorem dX5_paths_8 : decode cX5_paths 8 = .ok (.ifCond .eq 24, 3) := by decide +kernel
theorem dX5_paths_11 : decode cX5_paths 11 = .ok (.aload_n 0, 1) := by decide +kernel
theorem dX5_paths_12 : decode cX5_paths 12 = .ok (.getfield 10, 3) := by decide +kernel
theorem dX5_paths_15 : decode cX5_paths 15 = .ok (.iload_n 2, 1) := by decide +kernel
theorem dX5_paths_16 : decode cX5_paths 16 = .ok (.invokevirtual 68, 3) := by decide +kernel
theorem dX5_paths_19 : decode cX5_paths 19 = .ok (.ifCond .eq 13, 3) := by decide +kernel
theorem dX5_paths_22 : decode cX5_paths 22 = .ok (.iload_n 3, 1) := by decide +kernel
theorem dX5_paths_23 : decode cX5_paths 23 = .ok (.iconst 0, 1) := by decide +kernel
theorem dX5_paths_24 : decode cX5_paths 24 = .ok (.bipush 8, 2) := by decide +kernel
theorem dX5_paths_26 : decode cX5_paths 26 = .ok (.invokestatic 55, 3) := by decide +kernel
theorem dX5_paths_29 : decode cX5_paths 29 = .ok (.ifCond .ne 7, 3) := by decide +kernel
theorem dX5_paths_32 : decode cX5_paths 32 = .ok (.ldc2_w 91, 3) := by decide +kernel
theorem dX5_paths_35 : decode cX5_paths 35 = .ok (.lreturn, 1) := by decide +kernel
theorem dX5_paths_36 : decode cX5_paths 36 = .ok (.aload_n 0, 1) := by decide +kernel
theorem dX5_paths_37 : decode cX5_paths 37 = .ok (.getfield 32, 3) := by decide +kernel
theorem dX5_paths_40 : decode cX5_paths 40 = .ok (.iload_n 1, 1) := by decide +kernel
theorem dX5_paths_41 : decode cX5_paths 41 = .ok (.invokevirtual 93, 3) := by decide +kernel
theorem dX5_paths_44 : decode cX5_paths 44 = .ok (.aload_n 0, 1) := by decide +kernel
theorem dX5_paths_45 : decode cX5_paths 45 = .ok (.getfield 32, 3) := by decide +kernel
theorem dX5_paths_48 : decode cX5_paths 48 = .ok (.aload_n 0, 1) := by decide +kernel
theorem dX5_paths_49 : decode cX5_paths 49 = .ok (.getfield 10, 3) := by decide +kernel
theorem dX5_paths_52 : decode cX5_paths 52 = .ok (.iload_n 3, 1) := by decide +kernel
theorem dX5_paths_53 : decode cX5_paths 53 = .ok (.invokevirtual 96, 3) := by decide +kernel
theorem dX5_paths_56 : decode cX5_paths 56 = .ok (.aload_n 0, 1) := by decide +kernel
theorem dX5_paths_57 : decode cX5_paths 57 = .ok (.getfield 32, 3) := by decide +kernel
theorem dX5_paths_60 : decode cX5_paths 60 = .ok (.iload_n 2, 1) := by decide +kernel
theorem dX5_paths_61 : decode cX5_paths 61 = .ok (.invokevirtual 100, 3) := by decide +kernel
theorem dX5_paths_64 : decode cX5_paths 64 = .ok (.lreturn, 1) := by decide +kernel
set_option maxRecDepth 20000 in
theorem ggX5_componentCount_X2_order : GoodIn wsX5_componentCount wsX2_order := goodIn_r _ [6, 7, 42, 43] (by decide +kernel) (by decide +kernel)
set_option maxRecDepth 20000 in
theorem gX5_componentCount_X2_order : GoodIn wsX5_componentCount (wsV RX5 60 RX2 yX2_order wsX2_order) := goodIn_app (goodIn_of _ (by decide +kernel)) ggX5_componentCount_X2_order
set_option maxRecDepth 20000 in
theorem ggX5_componentCount_X0_componentsBelow : GoodIn wsX5_componentCount wsX0_componentsBelow := goodIn_r _ [11, 12, 13, 10, 14, 15, 3, 4, 5, 6, 7, 16, 17, 18, 19, 20, 21, 22, 23, 24, 25, 26, 27, 28, 29, 30, 31, 32, 33, 42, 43] (by decide +kernel) (by decide +kernel)
set_option maxRecDepth 20000 in
theorem gX5_componentCount_X0_componentsBelow : GoodIn wsX5_componentCount (va_wsS RX5 104 yX0_componentsBelow wsX0_componentsBelow) := goodIn_app (goodIn_of _ (by decide +kernel)) ggX5_componentCount_X0_componentsBelow
theorem dX5_componentCount_0 : decode cX5_componentCount 0 = .ok (.aload_n 0, 1) := by decide +kernel
theorem dX5_componentCount_1 : decode cX5_componentCount 1 = .ok (.getfield 10, 3) := by decide +kernel
theorem dX5_componentCount_4 : decode cX5_componentCount 4 = .ok (.aload_n 0, 1) := by decide +kernel
theorem dX5_componentCount_5 : decode cX5_componentCount 5 = .ok (.getfield 10, 3) := by decide +kernel
theorem dX5_componentCount_8 : decode cX5_componentCount 8 = .ok (.invokevirtual 60, 3) := by decide +kernel
theorem dX5_componentCount_11 : decode cX5_componentCount 11 = .ok (.invokestatic 104, 3) := by decide +kernel
theorem dX5_componentCount_14 : decode cX5_componentCount 14 = .ok (.ireturn, 1) := by decide +kernel
set_option maxRecDepth 20000 in
theorem ggX5_componentOf_X2_has : GoodIn wsX5_componentOf wsX2_has := goodIn_r _ [7, 8, 46, 47] (by decide +kernel) (by decide +kernel)
set_option maxRecDepth 20000 in
theorem gX5_componentOf_X2_has : GoodIn wsX5_componentOf (wsV RX5 68 RX2 yX2_has wsX2_has) := goodIn_app (goodIn_of _ (by decide +kernel)) ggX5_componentOf_X2_has
set_option maxRecDepth 20000 in
theorem ggX5_componentOf_X0_lowestOfComponent : GoodIn wsX5_componentOf wsX0_lowestOfComponent := goodIn_r _ [12, 13, 14, 11, 15, 16, 17, 18, 6, 19, 8, 20, 21, 22, 23, 24, 25, 26, 27, 28, 29, 30, 31, 4, 5, 7, 32, 33, 34, 46, 47] (by decide +kernel) (by decide +kernel)
set_option maxRecDepth 20000 in
theorem gX5_componentOf_X0_lowestOfComponent : GoodIn wsX5_componentOf (va_wsS RX5 108 yX0_lowestOfComponent wsX0_lowestOfComponent) := goodIn_app (goodIn_of _ (by decide +kernel)) ggX5_componentOf_X0_lowestOfComponent
set_option maxRecDepth 20000 in
theorem ggX5_componentOf_X0_componentsBelow : GoodIn wsX5_componentOf wsX0_componentsBelow := goodIn_r _ [37, 13, 14, 11, 15, 16, 17, 18, 6, 19, 8, 20, 21, 22, 23, 24, 25, 26, 27, 28, 29, 30, 31, 4, 5, 7, 32, 33, 34, 46, 47] (by decide +kernel) (by decide +kernel)
set_option maxRecDepth 20000 in
theorem gX5_componentOf_X0_componentsBelow : GoodIn wsX5_componentOf (va_wsS RX5 104 yX0_componentsBelow wsX0_componentsBelow) := goodIn_app (goodIn_of _ (by decide +kernel)) ggX5_componentOf_X0_componentsBelow
theorem dX5_componentOf_0 : decode cX5_componentOf 0 = .ok (.aload_n 0, 1) := by decide +kernel
theorem dX5_componentOf_1 : decode cX5_componentOf 1 = .ok (.getfield 10, 3) := by decide +kernel
theorem dX5_componentOf_4 : decode cX5_componentOf 4 = .ok (.iload_n 1, 1) := by decide +kernel
theorem dX5_componentOf_5 : decode cX5_componentOf 5 = .ok (.invokevirtual 68, 3) := by decide +kernel
theorem dX5_componentOf_8 : decode cX5_componentOf 8 = .ok (.ifCond .ne 6, 3) := by decide +kernel
theorem dX5_componentOf_11 : decode cX5_componentOf 11 = .ok (.ldc 59, 2) := by decide +kernel
theorem dX5_componentOf_13 : decode cX5_componentOf 13 = .ok (.ireturn, 1) := by decide +kernel
theorem dX5_componentOf_14 : decode cX5_componentOf 14 = .ok (.aload_n 0, 1) := by decide +kernel
theorem dX5_componentOf_15 : decode cX5_componentOf 15 = .ok (.getfield 10, 3) := by decide +kernel
theorem dX5_componentOf_18 : decode cX5_componentOf 18 = .ok (.aload_n 0, 1) := by decide +kernel
theorem dX5_componentOf_19 : decode cX5_componentOf 19 = .ok (.getfield 10, 3) := by decide +kernel
theorem dX5_componentOf_22 : decode cX5_componentOf 22 = .ok (.iload_n 1, 1) := by decide +kernel
theorem dX5_componentOf_23 : decode cX5_componentOf 23 = .ok (.invokestatic 108, 3) := by decide +kernel
theorem dX5_componentOf_26 : decode cX5_componentOf 26 = .ok (.invokestatic 104, 3) := by decide +kernel
theorem dX5_componentOf_29 : decode cX5_componentOf 29 = .ok (.ireturn, 1) := by decide +kernel
set_option maxRecDepth 20000 in
theorem ggX5_isIrreducible_X2_order : GoodIn wsX5_isIrreducible wsX2_order := goodIn_r _ [6, 7, 51, 52] (by decide +kernel) (by decide +kernel)
set_option maxRecDepth 20000 in
theorem gX5_isIrreducible_X2_order : GoodIn wsX5_isIrreducible (wsV RX5 60 RX2 yX2_order wsX2_order) := goodIn_app (goodIn_of _ (by decide +kernel)) ggX5_isIrreducible_X2_order
set_option maxRecDepth 20000 in
theorem ggX5_isIrreducible_X0_componentsBelow : GoodIn wsX5_isIrreducible wsX0_componentsBelow := goodIn_r _ [11, 12, 13, 10, 14, 15, 3, 4, 5, 6, 7, 16, 17, 18, 19, 20, 21, 22, 23, 24, 25, 26, 27, 28, 29, 30, 31, 32, 33, 51, 52] (by decide +kernel) (by decide +kernel)
set_option maxRecDepth 20000 in
theorem gX5_isIrreducible_X0_componentsBelow : GoodIn wsX5_isIrreducible (va_wsS RX5 104 yX0_componentsBelow wsX0_componentsBelow) := goodIn_app (goodIn_of _ (by decide +kernel)) ggX5_isIrreducible_X0_componentsBelow
set_option maxRecDepth 20000 in
theorem ggX5_isIrreducible_X2_greatestCell : GoodIn wsX5_isIrreducible wsX2_greatestCell := goodIn_r _ [37, 7, 38, 39, 40, 41, 42, 23, 24, 5, 25, 26, 27, 28, 29, 30, 51, 52] (by decide +kernel) (by decide +kernel)
set_option maxRecDepth 20000 in
theorem gX5_isIrreducible_X2_greatestCell : GoodIn wsX5_isIrreducible (wsV RX5 111 RX2 yX2_greatestCell wsX2_greatestCell) := goodIn_app (goodIn_of _ (by decide +kernel)) ggX5_isIrreducible_X2_greatestCell
theorem dX5_isIrreducible_0 : decode cX5_isIrreducible 0 = .ok (.aload_n 0, 1) := by decide +kernel
theorem dX5_isIrreducible_1 : decode cX5_isIrreducible 1 = .ok (.getfield 10, 3) := by decide +kernel
theorem dX5_isIrreducible_4 : decode cX5_isIrreducible 4 = .ok (.aload_n 0, 1) := by decide +kernel
theorem dX5_isIrreducible_5 : decode cX5_isIrreducible 5 = .ok (.getfield 10, 3) := by decide +kernel
theorem dX5_isIrreducible_8 : decode cX5_isIrreducible 8 = .ok (.invokevirtual 60, 3) := by decide +kernel
theorem dX5_isIrreducible_11 : decode cX5_isIrreducible 11 = .ok (.invokestatic 104, 3) := by decide +kernel
theorem dX5_isIrreducible_14 : decode cX5_isIrreducible 14 = .ok (.iconst 1, 1) := by decide +kernel
theorem dX5_isIrreducible_15 : decode cX5_isIrreducible 15 = .ok (.if_icmp .ne 7, 3) := by decide +kernel
theorem dX5_isIrreducible_18 : decode cX5_isIrreducible 18 = .ok (.iconst 1, 1) := by decide +kernel
theorem dX5_isIrreducible_19 : decode cX5_isIrreducible 19 = .ok (.goto 4, 3) := by decide +kernel
theorem dX5_isIrreducible_22 : decode cX5_isIrreducible 22 = .ok (.iconst 0, 1) := by decide +kernel
theorem dX5_isIrreducible_23 : decode cX5_isIrreducible 23 = .ok (.istore_n 1, 1) := by decide +kernel
theorem dX5_isIrreducible_24 : decode cX5_isIrreducible 24 = .ok (.iload_n 1, 1) := by decide +kernel
theorem dX5_isIrreducible_25 : decode cX5_isIrreducible 25 = .ok (.ifCond .eq 17, 3) := by decide +kernel
theorem dX5_isIrreducible_28 : decode cX5_isIrreducible 28 = .ok (.aload_n 0, 1) := by decide +kernel
theorem dX5_isIrreducible_29 : decode cX5_isIrreducible 29 = .ok (.getfield 10, 3) := by decide +kernel
theorem dX5_isIrreducible_32 : decode cX5_isIrreducible 32 = .ok (.invokevirtual 111, 3) := by decide +kernel
theorem dX5_isIrreducible_35 : decode cX5_isIrreducible 35 = .ok (.ifCond .le 7, 3) := by decide +kernel
theorem dX5_isIrreducible_38 : decode cX5_isIrreducible 38 = .ok (.iconst 1, 1) := by decide +kernel
theorem dX5_isIrreducible_39 : decode cX5_isIrreducible 39 = .ok (.goto 4, 3) := by decide +kernel
theorem dX5_isIrreducible_42 : decode cX5_isIrreducible 42 = .ok (.iconst 0, 1) := by decide +kernel
theorem dX5_isIrreducible_43 : decode cX5_isIrreducible 43 = .ok (.ireturn, 1) := by decide +kernel
set_option maxRecDepth 20000 in
theorem ggX5_periodOf_X2_has : GoodIn wsX5_periodOf wsX2_has := goodIn_r _ [8, 9, 41, 42] (by decide +kernel) (by decide +kernel)
set_option maxRecDepth 20000 in
theorem gX5_periodOf_X2_has : GoodIn wsX5_periodOf (wsV RX5 68 RX2 yX2_has wsX2_has) := goodIn_app (goodIn_of _ (by decide +kernel)) ggX5_periodOf_X2_has
set_option maxRecDepth 20000 in
theorem ggX5_periodOf_X0_divisorOfReturns : GoodIn wsX5_periodOf wsX0_divisorOfReturns := goodIn_r _ [13, 14, 15, 16, 7, 17, 9, 18, 19, 12, 20, 21, 22, 23, 24, 25, 26, 27, 28, 29, 5, 6, 8, 30, 31, 32, 41, 42] (by decide +kernel) (by decide +kernel)
set_option maxRecDepth 20000 in
theorem gX5_periodOf_X0_divisorOfReturns : GoodIn wsX5_periodOf (va_wsS RX5 114 yX0_divisorOfReturns wsX0_divisorOfReturns) := goodIn_app (goodIn_of _ (by decide +kernel)) ggX5_periodOf_X0_divisorOfReturns
theorem dX5_periodOf_0 : decode cX5_periodOf 0 = .ok (.aload_n 0, 1) := by decide +kernel
theorem dX5_periodOf_1 : decode cX5_periodOf 1 = .ok (.getfield 10, 3) := by decide +kernel
theorem dX5_periodOf_4 : decode cX5_periodOf 4 = .ok (.iload_n 1, 1) := by decide +kernel
theorem dX5_periodOf_5 : decode cX5_periodOf 5 = .ok (.invokevirtual 68, 3) := by decide +kernel
theorem dX5_periodOf_8 : decode cX5_periodOf 8 = .ok (.ifCond .ne 6, 3) := by decide +kernel
theorem dX5_periodOf_11 : decode cX5_periodOf 11 = .ok (.ldc 59, 2) := by decide +kernel
theorem dX5_periodOf_13 : decode cX5_periodOf 13 = .ok (.ireturn, 1) := by decide +kernel
theorem dX5_periodOf_14 : decode cX5_periodOf 14 = .ok (.aload_n 0, 1) := by decide +kernel
theorem dX5_periodOf_15 : decode cX5_periodOf 15 = .ok (.getfield 10, 3) := by decide +kernel
theorem dX5_periodOf_18 : decode cX5_periodOf 18 = .ok (.iload_n 1, 1) := by decide +kernel
theorem dX5_periodOf_19 : decode cX5_periodOf 19 = .ok (.invokestatic 114, 3) := by decide +kernel
theorem dX5_periodOf_22 : decode cX5_periodOf 22 = .ok (.istore_n 2, 1) := by decide +kernel
theorem dX5_periodOf_23 : decode cX5_periodOf 23 = .ok (.iload_n 2, 1) := by decide +kernel
theorem dX5_periodOf_24 : decode cX5_periodOf 24 = .ok (.ifCond .ne 8, 3) := by decide +kernel
theorem dX5_periodOf_27 : decode cX5_periodOf 27 = .ok (.ldc 117, 2) := by decide +kernel
theorem dX5_periodOf_29 : decode cX5_periodOf 29 = .ok (.goto 4, 3) := by decide +kernel
theorem dX5_periodOf_32 : decode cX5_periodOf 32 = .ok (.iload_n 2, 1) := by decide +kernel
theorem dX5_periodOf_33 : decode cX5_periodOf 33 = .ok (.ireturn, 1) := by decide +kernel
set_option maxRecDepth 20000 in
theorem ggX5_blocks_X5_isWithin : GoodIn wsX5_blocks wsX5_isWithin := goodIn_r _ [7] (by decide +kernel) (by decide +kernel)
set_option maxRecDepth 20000 in
theorem gX5_blocks_X5_isWithin : GoodIn wsX5_blocks (va_wsS RX5 55 yX5_isWithin wsX5_isWithin) := goodIn_app (goodIn_of _ (by decide +kernel)) ggX5_blocks_X5_isWithin
set_option maxRecDepth 20000 in
theorem ggX5_blocks_X4_beginEverywhere : GoodIn wsX5_blocks wsX4_beginEverywhere := goodIn_r _ [12, 13, 50, 51] (by decide +kernel) (by decide +kernel)
set_option maxRecDepth 20000 in
theorem gX5_blocks_X4_beginEverywhere : GoodIn wsX5_blocks (wsV RX5 118 RX4 yX4_beginEverywhere wsX4_beginEverywhere) := goodIn_app (goodIn_of _ (by decide +kernel)) ggX5_blocks_X4_beginEverywhere
set_option maxRecDepth 20000 in
theorem ggX5_blocks_X4_go : GoodIn wsX5_blocks wsX4_go := goodIn_r _ [17, 18, 13, 19, 20, 21, 22, 23, 24, 25, 11, 26, 27, 28, 29, 30, 31, 32, 33, 34, 35, 36, 37, 50, 51, 52, 53] (by decide +kernel) (by decide +kernel)
set_option maxRecDepth 20000 in
theorem gX5_blocks_X4_go : GoodIn wsX5_blocks (wsV RX5 96 RX4 yX4_go wsX4_go) := goodIn_app (goodIn_of _ (by decide +kernel)) ggX5_blocks_X4_go
set_option maxRecDepth 20000 in
theorem ggX5_blocks_X4_endingAnywhere : GoodIn wsX5_blocks wsX4_endingAnywhere := goodIn_r _ [41, 13, 50, 51] (by decide +kernel) (by decide +kernel)
set_option maxRecDepth 20000 in
theorem gX5_blocks_X4_endingAnywhere : GoodIn wsX5_blocks (wsV RX5 121 RX4 yX4_endingAnywhere wsX4_endingAnywhere) := goodIn_app (goodIn_of _ (by decide +kernel)) ggX5_blocks_X4_endingAnywhere
theorem dX5_blocks_0 : decode cX5_blocks 0 = .ok (.iload_n 1, 1) := by decide +kernel
theorem dX5_blocks_1 : decode cX5_blocks 1 = .ok (.iconst 1, 1) := by decide +kernel
theorem dX5_blocks_2 : decode cX5_blocks 2 = .ok (.bipush 8, 2) := by decide +kernel
theorem dX5_blocks_4 : decode cX5_blocks 4 = .ok (.invokestatic 55, 3) := by decide +kernel
theorem dX5_blocks_7 : decode cX5_blocks 7 = .ok (.ifCond .ne 7, 3) := by decide +kernel
theorem dX5_blocks_10 : decode cX5_blocks 10 = .ok (.ldc2_w 91, 3) := by decide +kernel
theorem dX5_blocks_13 : decode cX5_blocks 13 = .ok (.lreturn, 1) := by decide +kernel
theorem dX5_blocks_14 : decode cX5_blocks 14 = .ok (.aload_n 0, 1) := by decide +kernel
theorem dX5_blocks_15 : decode cX5_blocks 15 = .ok (.getfield 32, 3) := by decide +kernel
theorem dX5_blocks_18 : decode cX5_blocks 18 = .ok (.invokevirtual 118, 3) := by decide +kernel
theorem dX5_blocks_21 : decode cX5_blocks 21 = .ok (.aload_n 0, 1) := by decide +kernel
theorem dX5_blocks_22 : decode cX5_blocks 22 = .ok (.getfield 32, 3) := by decide +kernel
theorem dX5_blocks_25 : decode cX5_blocks 25 = .ok (.aload_n 0, 1) := by decide +kernel
theorem dX5_blocks_26 : decode cX5_blocks 26 = .ok (.getfield 10, 3) := by decide +kernel
theorem dX5_blocks_29 : decode cX5_blocks 29 = .ok (.iload_n 1, 1) := by decide +kernel
theorem dX5_blocks_30 : decode cX5_blocks 30 = .ok (.invokevirtual 96, 3) := by decide +kernel
theorem dX5_blocks_33 : decode cX5_blocks 33 = .ok (.aload_n 0, 1) := by decide +kernel
theorem dX5_blocks_34 : decode cX5_blocks 34 = .ok (.getfield 32, 3) := by decide +kernel
theorem dX5_blocks_37 : decode cX5_blocks 37 = .ok (.invokevirtual 121, 3) := by decide +kernel
theorem dX5_blocks_40 : decode cX5_blocks 40 = .ok (.lreturn, 1) := by decide +kernel
set_option maxRecDepth 20000 in
theorem ggX5_periodicPoints_X5_isWithin : GoodIn wsX5_periodicPoints wsX5_isWithin := goodIn_r _ [5] (by decide +kernel) (by decide +kernel)
set_option maxRecDepth 20000 in
theorem gX5_periodicPoints_X5_isWithin : GoodIn wsX5_periodicPoints (va_wsS RX5 55 yX5_isWithin wsX5_isWithin) := goodIn_app (goodIn_of _ (by decide +kernel)) ggX5_periodicPoints_X5_isWithin
set_option maxRecDepth 20000 in
theorem ggX5_periodicPoints_X5_closedPaths : GoodIn wsX5_periodicPoints wsX5_closedPaths := goodIn_r _ [9, 10, 11, 12, 13, 14, 15, 16, 17, 18, 19, 20, 21, 22, 23, 24, 25, 26, 27, 28, 29, 30, 31, 32, 33, 34, 35, 36, 37, 38, 39, 40, 41, 42, 43, 44, 45, 46, 47, 48, 49, 50, 51, 52, 53, 54, 55, 56, 57, 58, 59, 60, 61] (by decide +kernel) (by decide +kernel)
set_option maxRecDepth 20000 in
theorem gX5_periodicPoints_X5_closedPaths : GoodIn wsX5_periodicPoints (wsV RX5 125 RX5 yX5_closedPaths wsX5_closedPaths) := goodIn_app (goodIn_of _ (by decide +kernel)) ggX5_periodicPoints_X5_closedPaths
theorem dX5_periodicPoints_0 : decode cX5_periodicPoints 0 = .ok (.iload_n 1, 1) := by decide +kernel
theorem dX5_periodicPoints_1 : decode cX5_periodicPoints 1 = .ok (.iconst 1, 1) := by decide +kernel
theorem dX5_periodicPoints_2 : decode cX5_periodicPoints 2 = .ok (.bipush 8, 2) := by decide +kernel
theorem dX5_periodicPoints_4 : decode cX5_periodicPoints 4 = .ok (.invokestatic 55, 3) := by decide +kernel
theorem dX5_periodicPoints_7 : decode cX5_periodicPoints 7 = .ok (.ifCond .ne 7, 3) := by decide +kernel
theorem dX5_periodicPoints_10 : decode cX5_periodicPoints 10 = .ok (.ldc2_w 91, 3) := by decide +kernel
theorem dX5_periodicPoints_13 : decode cX5_periodicPoints 13 = .ok (.lreturn, 1) := by decide +kernel
theorem dX5_periodicPoints_14 : decode cX5_periodicPoints 14 = .ok (.aload_n 0, 1) := by decide +kernel
theorem dX5_periodicPoints_15 : decode cX5_periodicPoints 15 = .ok (.iload_n 1, 1) := by decide +kernel
theorem dX5_periodicPoints_16 : decode cX5_periodicPoints 16 = .ok (.invokevirtual 125, 3) := by decide +kernel
theorem dX5_periodicPoints_19 : decode cX5_periodicPoints 19 = .ok (.lreturn, 1) := by decide +kernel
set_option maxRecDepth 20000 in
theorem ggX5_orbits_X5_isWithin : GoodIn wsX5_orbits wsX5_isWithin := goodIn_r _ [6] (by decide +kernel) (by decide +kernel)
set_option maxRecDepth 20000 in
theorem gX5_orbits_X5_isWithin : GoodIn wsX5_orbits (va_wsS RX5 55 yX5_isWithin wsX5_isWithin) := goodIn_app (goodIn_of _ (by decide +kernel)) ggX5_orbits_X5_isWithin
set_option maxRecDepth 20000 in
theorem ggX5_orbits_X5_closedPaths : GoodIn wsX5_orbits wsX5_closedPaths := goodIn_r _ [10, 11, 12, 13, 14, 15, 16, 17, 18, 19, 20, 21, 22, 23, 24, 25, 26, 27, 28, 29, 30, 31, 32, 33, 34, 35, 36, 37, 38, 39, 40, 41, 42, 43, 44, 45, 46, 47, 48, 49, 50, 55, 56, 57, 58, 59, 60, 61, 62, 63, 64, 65, 66] (by decide +kernel) (by decide +kernel)
set_option maxRecDepth 20000 in
theorem gX5_orbits_X5_closedPaths : GoodIn wsX5_orbits (wsV RX5 125 RX5 yX5_closedPaths wsX5_closedPaths) := goodIn_app (goodIn_of _ (by decide +kernel)) ggX5_orbits_X5_closedPaths
set_option maxRecDepth 20000 in
theorem ggX5_orbits_X5_pointsOfLesserPeriods : GoodIn wsX5_orbits wsX5_pointsOfLesserPeriods := goodIn_r _ [54, 2, 55, 56, 57, 58, 59, 60, 61, 62] (by decide +kernel) (by decide +kernel)
set_option maxRecDepth 20000 in
theorem gX5_orbits_X5_pointsOfLesserPeriods : GoodIn wsX5_orbits (wsV RX5 128 RX5 yX5_pointsOfLesserPeriods wsX5_pointsOfLesserPeriods) := goodIn_app (goodIn_of _ (by decide +kernel)) ggX5_orbits_X5_pointsOfLesserPeriods
theorem dX5_orbits_0 : decode cX5_orbits 0 = .ok (.iload_n 1, 1) := by decide +kernel
theorem dX5_orbits_1 : decode cX5_orbits 1 = .ok (.iconst 1, 1) := by decide +kernel
theorem dX5_orbits_2 : decode cX5_orbits 2 = .ok (.bipush 8, 2) := by decide +kernel
theorem dX5_orbits_4 : decode cX5_orbits 4 = .ok (.invokestatic 55, 3) := by decide +kernel
theorem dX5_orbits_7 : decode cX5_orbits 7 = .ok (.ifCond .ne 7, 3) := by decide +kernel
theorem dX5_orbits_10 : decode cX5_orbits 10 = .ok (.ldc2_w 91, 3) := by decide +kernel
theorem dX5_orbits_13 : decode cX5_orbits 13 = .ok (.lreturn, 1) := by decide +kernel
theorem dX5_orbits_14 : decode cX5_orbits 14 = .ok (.iconst 1, 1) := by decide +kernel
theorem dX5_orbits_15 : decode cX5_orbits 15 = .ok (.istore_n 2, 1) := by decide +kernel
theorem dX5_orbits_16 : decode cX5_orbits 16 = .ok (.iload_n 2, 1) := by decide +kernel
theorem dX5_orbits_17 : decode cX5_orbits 17 = .ok (.iload_n 1, 1) := by decide +kernel
theorem dX5_orbits_18 : decode cX5_orbits 18 = .ok (.if_icmp .gt 32, 3) := by decide +kernel
theorem dX5_orbits_21 : decode cX5_orbits 21 = .ok (.iload_n 1, 1) := by decide +kernel
theorem dX5_orbits_22 : decode cX5_orbits 22 = .ok (.iload_n 2, 1) := by decide +kernel
theorem dX5_orbits_23 : decode cX5_orbits 23 = .ok (.irem, 1) := by decide +kernel
theorem dX5_orbits_24 : decode cX5_orbits 24 = .ok (.ifCond .ne 20, 3) := by decide +kernel
theorem dX5_orbits_27 : decode cX5_orbits 27 = .ok (.aload_n 0, 1) := by decide +kernel
theorem dX5_orbits_28 : decode cX5_orbits 28 = .ok (.getfield 47, 3) := by decide +kernel
theorem dX5_orbits_31 : decode cX5_orbits 31 = .ok (.iload_n 2, 1) := by decide +kernel
theorem dX5_orbits_32 : decode cX5_orbits 32 = .ok (.aload_n 0, 1) := by decide +kernel
theorem dX5_orbits_33 : decode cX5_orbits 33 = .ok (.iload_n 2, 1) := by decide +kernel
theorem dX5_orbits_34 : decode cX5_orbits 34 = .ok (.invokevirtual 125, 3) := by decide +kernel
theorem dX5_orbits_37 : decode cX5_orbits 37 = .ok (.aload_n 0, 1) := by decide +kernel
theorem dX5_orbits_38 : decode cX5_orbits 38 = .ok (.iload_n 2, 1) := by decide +kernel
theorem dX5_orbits_39 : decode cX5_orbits 39 = .ok (.invokevirtual 128, 3) := by decide +kernel
theorem dX5_orbits_42 : decode cX5_orbits 42 = .ok (.lsub, 1) := by decide +kernel
theorem dX5_orbits_43 : decode cX5_orbits 43 = .ok (.lastore, 1) := by decide +kernel
theorem dX5_orbits_44 : decode cX5_orbits 44 = .ok (.iinc 2 1, 3) := by decide +kernel
theorem dX5_orbits_47 : decode cX5_orbits 47 = .ok (.goto (-31), 3) := by decide +kernel
theorem dX5_orbits_50 : decode cX5_orbits 50 = .ok (.aload_n 0, 1) := by decide +kernel
theorem dX5_orbits_51 : decode cX5_orbits 51 = .ok (.getfield 47, 3) := by decide +kernel
theorem dX5_orbits_54 : decode cX5_orbits 54 = .ok (.iload_n 1, 1) := by decide +kernel
theorem dX5_orbits_55 : decode cX5_orbits 55 = .ok (.laload, 1) := by decide +kernel
theorem dX5_orbits_56 : decode cX5_orbits 56 = .ok (.iload_n 1, 1) := by decide +kernel
theorem dX5_orbits_57 : decode cX5_orbits 57 = .ok (.i2l, 1) := by decide +kernel
theorem dX5_orbits_58 : decode cX5_orbits 58 = .ok (.ldiv, 1) := by decide +kernel
theorem dX5_orbits_59 : decode cX5_orbits 59 = .ok (.lreturn, 1) := by decide +kernel
set_option maxRecDepth 20000 in
theorem ggX5_coefficient_X5_isWithin : GoodIn wsX5_coefficient wsX5_isWithin := goodIn_r _ [6] (by decide +kernel) (by decide +kernel)
set_option maxRecDepth 20000 in
theorem gX5_coefficient_X5_isWithin : GoodIn wsX5_coefficient (va_wsS RX5 55 yX5_isWithin wsX5_isWithin) := goodIn_app (goodIn_of _ (by decide +kernel)) ggX5_coefficient_X5_isWithin
set_option maxRecDepth 20000 in
theorem ggX5_coefficient_X5_zetaCoefficient : GoodIn wsX5_coefficient wsX5_zetaCoefficient := goodIn_r _ [10, 11, 12, 13, 14, 15, 16, 17, 18, 19, 20, 21, 22, 23, 24, 25, 26, 27, 28, 29, 30, 31, 32, 33, 34, 35, 36, 37, 38, 39, 40, 41, 42, 43, 44, 45, 46, 47, 48, 49, 50, 51, 52, 53, 54, 55, 56, 57, 58, 59, 60, 61, 62, 63, 64, 65, 66, 67, 68, 69, 70, 71, 72] (by decide +kernel) (by decide +kernel)
set_option maxRecDepth 20000 in
theorem gX5_coefficient_X5_zetaCoefficient : GoodIn wsX5_coefficient (wsV RX5 131 RX5 yX5_zetaCoefficient wsX5_zetaCoefficient) := goodIn_app (goodIn_of _ (by decide +kernel)) ggX5_coefficient_X5_zetaCoefficient
theorem dX5_coefficient_0 : decode cX5_coefficient 0 = .ok (.iload_n 1, 1) := by decide +kernel
theorem dX5_coefficient_1 : decode cX5_coefficient 1 = .ok (.iconst 0, 1) := by decide +kernel
theorem dX5_coefficient_2 : decode cX5_coefficient 2 = .ok (.bipush 6, 2) := by decide +kernel
theorem dX5_coefficient_4 : decode cX5_coefficient 4 = .ok (.invokestatic 55, 3) := by decide +kernel
theorem dX5_coefficient_7 : decode cX5_coefficient 7 = .ok (.ifCond .ne 7, 3) := by decide +kernel
theorem dX5_coefficient_10 : decode cX5_coefficient 10 = .ok (.ldc2_w 91, 3) := by decide +kernel
theorem dX5_coefficient_13 : decode cX5_coefficient 13 = .ok (.lreturn, 1) := by decide +kernel
theorem dX5_coefficient_14 : decode cX5_coefficient 14 = .ok (.aload_n 0, 1) := by decide +kernel
theorem dX5_coefficient_15 : decode cX5_coefficient 15 = .ok (.aload_n 0, 1) := by decide +kernel
theorem dX5_coefficient_16 : decode cX5_coefficient 16 = .ok (.getfield 10, 3) := by decide +kernel
theorem dX5_coefficient_19 : decode cX5_coefficient 19 = .ok (.iload_n 1, 1) := by decide +kernel
theorem dX5_coefficient_20 : decode cX5_coefficient 20 = .ok (.invokevirtual 131, 3) := by decide +kernel
theorem dX5_coefficient_23 : decode cX5_coefficient 23 = .ok (.lreturn, 1) := by decide +kernel
set_option maxRecDepth 20000 in
theorem ggX5_radiusTenths_X5_radiusIsBelow : GoodIn wsX5_radiusTenths wsX5_radiusIsBelow := goodIn_r _ [5, 6, 7, 8, 9, 10, 11, 12, 13, 14, 15, 16, 17, 18, 19, 20, 21, 22, 23, 24, 25, 26, 27, 28, 29, 30, 31, 32, 33, 34, 35, 36, 37, 38, 39, 40, 41, 42, 43, 44, 45, 46, 47, 48, 49, 50, 51, 52, 53, 54, 55, 56, 57, 58, 59, 60, 61, 62, 63, 64, 65, 66, 67, 68, 69] (by decide +kernel) (by decide +kernel)
set_option maxRecDepth 20000 in
theorem gX5_radiusTenths_X5_radiusIsBelow : GoodIn wsX5_radiusTenths (wsV RX5 135 RX5 yX5_radiusIsBelow wsX5_radiusIsBelow) := goodIn_app (goodIn_of _ (by decide +kernel)) ggX5_radiusTenths_X5_radiusIsBelow
theorem dX5_radiusTenths_0 : decode cX5_radiusTenths 0 = .ok (.iconst 0, 1) := by decide +kernel
theorem dX5_radiusTenths_1 : decode cX5_radiusTenths 1 = .ok (.istore_n 1, 1) := by decide +kernel
theorem dX5_radiusTenths_2 : decode cX5_radiusTenths 2 = .ok (.bipush 9, 2) := by decide +kernel
theorem dX5_radiusTenths_4 : decode cX5_radiusTenths 4 = .ok (.istore_n 2, 1) := by decide +kernel
theorem dX5_radiusTenths_5 : decode cX5_radiusTenths 5 = .ok (.iload_n 2, 1) := by decide +kernel
theorem dX5_radiusTenths_6 : decode cX5_radiusTenths 6 = .ok (.ifCond .lt 25, 3) := by decide +kernel
theorem dX5_radiusTenths_9 : decode cX5_radiusTenths 9 = .ok (.iload_n 1, 1) := by decide +kernel
theorem dX5_radiusTenths_10 : decode cX5_radiusTenths 10 = .ok (.iconst 1, 1) := by decide +kernel
theorem dX5_radiusTenths_11 : decode cX5_radiusTenths 11 = .ok (.iload_n 2, 1) := by decide +kernel
theorem dX5_radiusTenths_12 : decode cX5_radiusTenths 12 = .ok (.ishl, 1) := by decide +kernel
theorem dX5_radiusTenths_13 : decode cX5_radiusTenths 13 = .ok (.iadd, 1) := by decide +kernel
theorem dX5_radiusTenths_14 : decode cX5_radiusTenths 14 = .ok (.istore_n 3, 1) := by decide +kernel
theorem dX5_radiusTenths_15 : decode cX5_radiusTenths 15 = .ok (.aload_n 0, 1) := by decide +kernel
theorem dX5_radiusTenths_16 : decode cX5_radiusTenths 16 = .ok (.iload_n 3, 1) := by decide +kernel
theorem dX5_radiusTenths_17 : decode cX5_radiusTenths 17 = .ok (.invokevirtual 135, 3) := by decide +kernel
theorem dX5_radiusTenths_20 : decode cX5_radiusTenths 20 = .ok (.ifCond .ne 5, 3) := by decide +kernel
theorem dX5_radiusTenths_23 : decode cX5_radiusTenths 23 = .ok (.iload_n 3, 1) := by decide +kernel
theorem dX5_radiusTenths_24 : decode cX5_radiusTenths 24 = .ok (.istore_n 1, 1) := by decide +kernel
theorem dX5_radiusTenths_25 : decode cX5_radiusTenths 25 = .ok (.iinc 2 (-1), 3) := by decide +kernel
theorem dX5_radiusTenths_28 : decode cX5_radiusTenths 28 = .ok (.goto (-23), 3) := by decide +kernel
theorem dX5_radiusTenths_31 : decode cX5_radiusTenths 31 = .ok (.iload_n 1, 1) := by decide +kernel
theorem dX5_radiusTenths_32 : decode cX5_radiusTenths 32 = .ok (.ireturn, 1) := by decide +kernel
set_option maxRecDepth 20000 in
theorem ggX5_determinant_X3_take : GoodIn wsX5_determinant wsX3_take := goodIn_r _ [8, 9, 10, 11, 12, 13, 14, 15, 16, 17, 18, 19, 20, 21, 22, 23, 24, 25, 59, 60, 61, 62, 63, 64] (by decide +kernel) (by decide +kernel)
set_option maxRecDepth 20000 in
theorem gX5_determinant_X3_take : GoodIn wsX5_determinant (wsV RX5 140 RX3 yX3_take wsX3_take) := goodIn_app (goodIn_of _ (by decide +kernel)) ggX5_determinant_X3_take
set_option maxRecDepth 20000 in
theorem ggX5_determinant_X3_ofAll : GoodIn wsX5_determinant wsX3_ofAll := goodIn_r _ [29, 9, 30, 31, 32, 33, 7, 34, 35, 36, 37, 38, 39, 40, 41, 42, 43, 44, 45, 46, 47, 48, 49, 50, 10, 59, 60, 61, 62] (by decide +kernel) (by decide +kernel)
set_option maxRecDepth 20000 in
theorem gX5_determinant_X3_ofAll : GoodIn wsX5_determinant (wsV RX5 144 RX3 yX3_ofAll wsX3_ofAll) := goodIn_app (goodIn_of _ (by decide +kernel)) ggX5_determinant_X3_ofAll
theorem dX5_determinant_0 : decode cX5_determinant 0 = .ok (.aload_n 0, 1) := by decide +kernel
theorem dX5_determinant_1 : decode cX5_determinant 1 = .ok (.getfield 39, 3) := by decide +kernel
theorem dX5_determinant_4 : decode cX5_determinant 4 = .ok (.aload_n 0, 1) := by decide +kernel
theorem dX5_determinant_5 : decode cX5_determinant 5 = .ok (.getfield 10, 3) := by decide +kernel
theorem dX5_determinant_8 : decode cX5_determinant 8 = .ok (.lconst 1, 1) := by decide +kernel
theorem dX5_determinant_9 : decode cX5_determinant 9 = .ok (.ldc2_w 138, 3) := by decide +kernel
theorem dX5_determinant_12 : decode cX5_determinant 12 = .ok (.invokevirtual 140, 3) := by decide +kernel
theorem dX5_determinant_15 : decode cX5_determinant 15 = .ok (.aload_n 0, 1) := by decide +kernel
theorem dX5_determinant_16 : decode cX5_determinant 16 = .ok (.getfield 39, 3) := by decide +kernel
theorem dX5_determinant_19 : decode cX5_determinant 19 = .ok (.invokevirtual 144, 3) := by decide +kernel
theorem dX5_determinant_22 : decode cX5_determinant 22 = .ok (.lreturn, 1) := by decide +kernel
set_option maxRecDepth 20000 in
theorem ggX5_factor_X2_order : GoodIn wsX5_factor wsX2_order := goodIn_r _ [7, 8, 79, 80] (by decide +kernel) (by decide +kernel)
set_option maxRecDepth 20000 in
theorem gX5_factor_X2_order : GoodIn wsX5_factor (wsV RX5 60 RX2 yX2_order wsX2_order) := goodIn_app (goodIn_of _ (by decide +kernel)) ggX5_factor_X2_order
set_option maxRecDepth 20000 in
theorem ggX5_factor_X5_isWithin : GoodIn wsX5_factor wsX5_isWithin := goodIn_r _ [12] (by decide +kernel) (by decide +kernel)
set_option maxRecDepth 20000 in
theorem gX5_factor_X5_isWithin : GoodIn wsX5_factor (va_wsS RX5 55 yX5_isWithin wsX5_isWithin) := goodIn_app (goodIn_of _ (by decide +kernel)) ggX5_factor_X5_isWithin
set_option maxRecDepth 20000 in
theorem ggX5_factor_X5_groupFactor : GoodIn wsX5_factor wsX5_groupFactor := goodIn_r _ [16, 17, 18, 19, 20, 21, 22, 23, 24, 25, 26, 4, 5, 6, 7, 8, 27, 28, 29, 30, 31, 32, 33, 34, 35, 36, 37, 38, 39, 40, 41, 42, 43, 44, 45, 46, 47, 48, 49, 50, 51, 52, 53, 54, 55, 56, 57, 58, 59, 60, 61, 62, 63, 64, 65, 66, 67, 68, 69, 11, 70, 71, 72, 73, 74, 75, 76, 77, 78, 81, 82, 83, 84, 79, 80] (by decide +kernel) (by decide +kernel)
set_option maxRecDepth 20000 in
theorem gX5_factor_X5_groupFactor : GoodIn wsX5_factor (wsV RX5 147 RX5 yX5_groupFactor wsX5_groupFactor) := goodIn_app (goodIn_of _ (by decide +kernel)) ggX5_factor_X5_groupFactor
theorem dX5_factor_0 : decode cX5_factor 0 = .ok (.iload_n 1, 1) := by decide +kernel
theorem dX5_factor_1 : decode cX5_factor 1 = .ok (.iconst 1, 1) := by decide +kernel
theorem dX5_factor_2 : decode cX5_factor 2 = .ok (.aload_n 0, 1) := by decide +kernel
theorem dX5_factor_3 : decode cX5_factor 3 = .ok (.getfield 10, 3) := by decide +kernel
theorem dX5_factor_6 : decode cX5_factor 6 = .ok (.invokevirtual 60, 3) := by decide +kernel
theorem dX5_factor_9 : decode cX5_factor 9 = .ok (.invokestatic 55, 3) := by decide +kernel
theorem dX5_factor_12 : decode cX5_factor 12 = .ok (.ifCond .ne 7, 3) := by decide +kernel
theorem dX5_factor_15 : decode cX5_factor 15 = .ok (.ldc2_w 91, 3) := by decide +kernel
theorem dX5_factor_18 : decode cX5_factor 18 = .ok (.lreturn, 1) := by decide +kernel
theorem dX5_factor_19 : decode cX5_factor 19 = .ok (.aload_n 0, 1) := by decide +kernel
theorem dX5_factor_20 : decode cX5_factor 20 = .ok (.aload_n 0, 1) := by decide +kernel
theorem dX5_factor_21 : decode cX5_factor 21 = .ok (.getfield 10, 3) := by decide +kernel
theorem dX5_factor_24 : decode cX5_factor 24 = .ok (.iload_n 1, 1) := by decide +kernel
theorem dX5_factor_25 : decode cX5_factor 25 = .ok (.invokevirtual 147, 3) := by decide +kernel
theorem dX5_factor_28 : decode cX5_factor 28 = .ok (.lreturn, 1) := by decide +kernel
set_option maxRecDepth 20000 in
theorem ggX5_setShare_X5_isWithin : GoodIn wsX5_setShare wsX5_isWithin := goodIn_r _ [6] (by decide +kernel) (by decide +kernel)
set_option maxRecDepth 20000 in
theorem gX5_setShare_X5_isWithin : GoodIn wsX5_setShare (va_wsS RX5 55 yX5_isWithin wsX5_isWithin) := goodIn_app (goodIn_of _ (by decide +kernel)) ggX5_setShare_X5_isWithin
theorem dX5_setShare_0 : decode cX5_setShare 0 = .ok (.iload_n 1, 1) := by decide +kernel
theorem dX5_setShare_1 : decode cX5_setShare 1 = .ok (.iconst 0, 1) := by decide +kernel
theorem dX5_setShare_2 : decode cX5_setShare 2 = .ok (.iconst 5, 1) := by decide +kernel
theorem dX5_setShare_3 : decode cX5_setShare 3 = .ok (.invokestatic 55, 3) := by decide +kernel
theorem dX5_setShare_6 : decode cX5_setShare 6 = .ok (.ifCond .eq 13, 3) := by decide +kernel
theorem dX5_setShare_9 : decode cX5_setShare 9 = .ok (.iload_n 2, 1) := by decide +kernel
theorem dX5_setShare_10 : decode cX5_setShare 10 = .ok (.iconst 0, 1) := by decide +kernel
theorem dX5_setShare_11 : decode cX5_setShare 11 = .ok (.bipush 9, 2) := by decide +kernel
theorem dX5_setShare_13 : decode cX5_setShare 13 = .ok (.invokestatic 55, 3) := by decide +kernel
theorem dX5_setShare_16 : decode cX5_setShare 16 = .ok (.ifCond .ne 6, 3) := by decide +kernel
theorem dX5_setShare_19 : decode cX5_setShare 19 = .ok (.ldc 59, 2) := by decide +kernel
theorem dX5_setShare_21 : decode cX5_setShare 21 = .ok (.ireturn, 1) := by decide +kernel
theorem dX5_setShare_22 : decode cX5_setShare 22 = .ok (.aload_n 0, 1) := by decide +kernel
theorem dX5_setShare_23 : decode cX5_setShare 23 = .ok (.getfield 43, 3) := by decide +kernel
theorem dX5_setShare_26 : decode cX5_setShare 26 = .ok (.iload_n 1, 1) := by decide +kernel
theorem dX5_setShare_27 : decode cX5_setShare 27 = .ok (.iaload, 1) := by decide +kernel
theorem dX5_setShare_28 : decode cX5_setShare 28 = .ok (.istore_n 3, 1) := by decide +kernel
theorem dX5_setShare_29 : decode cX5_setShare 29 = .ok (.aload_n 0, 1) := by decide +kernel
theorem dX5_setShare_30 : decode cX5_setShare 30 = .ok (.getfield 43, 3) := by decide +kernel
theorem dX5_setShare_33 : decode cX5_setShare 33 = .ok (.iload_n 1, 1) := by decide +kernel
theorem dX5_setShare_34 : decode cX5_setShare 34 = .ok (.iload_n 2, 1) := by decide +kernel
theorem dX5_setShare_35 : decode cX5_setShare 35 = .ok (.iastore, 1) := by decide +kernel
theorem dX5_setShare_36 : decode cX5_setShare 36 = .ok (.iload_n 3, 1) := by decide +kernel
theorem dX5_setShare_37 : decode cX5_setShare 37 = .ok (.ireturn, 1) := by decide +kernel
set_option maxRecDepth 20000 in
theorem ggX5_outSplit_X5_split : GoodIn wsX5_outSplit wsX5_split := goodIn_r _ [5, 6, 7, 8, 9, 10, 11, 12, 13, 14, 15, 16, 17, 18, 19, 20, 21, 4, 22, 23, 24, 25, 26, 27, 28, 29, 30, 31, 32, 33, 34, 35, 36, 37, 38, 39, 40, 41, 42, 43, 44, 45, 46, 47, 48, 49, 50, 51, 52, 53, 54, 55, 56, 57, 58, 59, 60, 61, 62, 63, 64, 65, 66, 67, 68, 69, 70, 71, 72, 73, 74, 75, 76, 77, 78, 79, 80, 81, 82, 83, 84, 85] (by decide +kernel) (by decide +kernel)
set_option maxRecDepth 20000 in
theorem gX5_outSplit_X5_split : GoodIn wsX5_outSplit (wsV RX5 150 RX5 yX5_split wsX5_split) := goodIn_app (goodIn_of _ (by decide +kernel)) ggX5_outSplit_X5_split
theorem dX5_outSplit_0 : decode cX5_outSplit 0 = .ok (.aload_n 0, 1) := by decide +kernel
theorem dX5_outSplit_1 : decode cX5_outSplit 1 = .ok (.iload_n 1, 1) := by decide +kernel
theorem dX5_outSplit_2 : decode cX5_outSplit 2 = .ok (.iconst 0, 1) := by decide +kernel
theorem dX5_outSplit_3 : decode cX5_outSplit 3 = .ok (.invokevirtual 150, 3) := by decide +kernel
theorem dX5_outSplit_6 : decode cX5_outSplit 6 = .ok (.ireturn, 1) := by decide +kernel
set_option maxRecDepth 20000 in
theorem ggX5_inSplit_X5_split : GoodIn wsX5_inSplit wsX5_split := goodIn_r _ [5, 6, 7, 8, 9, 10, 11, 12, 13, 14, 15, 16, 17, 18, 19, 20, 21, 4, 22, 23, 24, 25, 26, 27, 28, 29, 30, 31, 32, 33, 34, 35, 36, 37, 38, 39, 40, 41, 42, 43, 44, 45, 46, 47, 48, 49, 50, 51, 52, 53, 54, 55, 56, 57, 58, 59, 60, 61, 62, 63, 64, 65, 66, 67, 68, 69, 70, 71, 72, 73, 74, 75, 76, 77, 78, 79, 80, 81, 82, 83, 84, 85] (by decide +kernel) (by decide +kernel)
set_option maxRecDepth 20000 in
theorem gX5_inSplit_X5_split : GoodIn wsX5_inSplit (wsV RX5 150 RX5 yX5_split wsX5_split) := goodIn_app (goodIn_of _ (by decide +kernel)) ggX5_inSplit_X5_split
theorem dX5_inSplit_0 : decode cX5_inSplit 0 = .ok (.aload_n 0, 1) := by decide +kernel
theorem dX5_inSplit_1 : decode cX5_inSplit 1 = .ok (.iload_n 1, 1) := by decide +kernel
theorem dX5_inSplit_2 : decode cX5_inSplit 2 = .ok (.iconst 1, 1) := by decide +kernel
theorem dX5_inSplit_3 : decode cX5_inSplit 3 = .ok (.invokevirtual 150, 3) := by decide +kernel
theorem dX5_inSplit_6 : decode cX5_inSplit 6 = .ok (.ireturn, 1) := by decide +kernel
set_option maxRecDepth 20000 in
theorem ggX5_outMerge_X5_merge : GoodIn wsX5_outMerge wsX5_merge := goodIn_r _ [5, 6, 7, 8, 9, 10, 11, 12, 13, 14, 15, 16, 17, 18, 19, 20, 21, 22, 23, 24, 25, 26, 27, 4, 28, 29, 30, 31, 32, 33, 34, 35, 36, 37, 38, 39, 40, 41, 42, 43, 44, 45, 46, 47, 48, 49, 50, 51, 52, 53, 54, 55, 56, 57, 58, 59, 60, 61, 62, 63, 64, 65, 66, 67, 68, 69, 70, 71, 72, 73, 74, 75, 76, 77, 78, 79, 80, 81, 82, 83, 84, 85, 86, 87, 88, 89, 90, 91, 92, 93, 94, 95, 96, 97] (by decide +kernel) (by decide +kernel)
set_option maxRecDepth 20000 in
theorem gX5_outMerge_X5_merge : GoodIn wsX5_outMerge (wsV RX5 154 RX5 yX5_merge wsX5_merge) := goodIn_app (goodIn_of _ (by decide +kernel)) ggX5_outMerge_X5_merge
theorem dX5_outMerge_0 : decode cX5_outMerge 0 = .ok (.aload_n 0, 1) := by decide +kernel
theorem dX5_outMerge_1 : decode cX5_outMerge 1 = .ok (.iload_n 1, 1) := by decide +kernel
theorem dX5_outMerge_2 : decode cX5_outMerge 2 = .ok (.iload_n 2, 1) := by decide +kernel
theorem dX5_outMerge_3 : decode cX5_outMerge 3 = .ok (.iconst 0, 1) := by decide +kernel
theorem dX5_outMerge_4 : decode cX5_outMerge 4 = .ok (.invokevirtual 154, 3) := by decide +kernel
theorem dX5_outMerge_7 : decode cX5_outMerge 7 = .ok (.ireturn, 1) := by decide +kernel
set_option maxRecDepth 20000 in
theorem ggX5_inMerge_X5_merge : GoodIn wsX5_inMerge wsX5_merge := goodIn_r _ [5, 6, 7, 8, 9, 10, 11, 12, 13, 14, 15, 16, 17, 18, 19, 20, 21, 22, 23, 24, 25, 26, 27, 4, 28, 29, 30, 31, 32, 33, 34, 35, 36, 37, 38, 39, 40, 41, 42, 43, 44, 45, 46, 47, 48, 49, 50, 51, 52, 53, 54, 55, 56, 57, 58, 59, 60, 61, 62, 63, 64, 65, 66, 67, 68, 69, 70, 71, 72, 73, 74, 75, 76, 77, 78, 79, 80, 81, 82, 83, 84, 85, 86, 87, 88, 89, 90, 91, 92, 93, 94, 95, 96, 97] (by decide +kernel) (by decide +kernel)
set_option maxRecDepth 20000 in
theorem gX5_inMerge_X5_merge : GoodIn wsX5_inMerge (wsV RX5 154 RX5 yX5_merge wsX5_merge) := goodIn_app (goodIn_of _ (by decide +kernel)) ggX5_inMerge_X5_merge
theorem dX5_inMerge_0 : decode cX5_inMerge 0 = .ok (.aload_n 0, 1) := by decide +kernel
theorem dX5_inMerge_1 : decode cX5_inMerge 1 = .ok (.iload_n 1, 1) := by decide +kernel
theorem dX5_inMerge_2 : decode cX5_inMerge 2 = .ok (.iload_n 2, 1) := by decide +kernel
theorem dX5_inMerge_3 : decode cX5_inMerge 3 = .ok (.iconst 1, 1) := by decide +kernel
theorem dX5_inMerge_4 : decode cX5_inMerge 4 = .ok (.invokevirtual 154, 3) := by decide +kernel
theorem dX5_inMerge_7 : decode cX5_inMerge 7 = .ok (.ireturn, 1) := by decide +kernel
set_option maxRecDepth 20000 in
theorem ggX5_coreSize_X5_coreOrder : GoodIn wsX5_coreSize wsX5_coreOrder := goodIn_r _ [6, 7, 8, 9, 10, 11, 12, 13, 14, 15, 16, 17, 18, 19, 20, 21, 22, 23, 24, 25, 26, 27, 28, 29, 30, 31, 32, 33, 34, 35, 36, 37, 38, 39, 40, 41, 42, 43, 44, 45, 46, 47, 48, 49, 50, 51, 52, 53, 54, 55, 56, 57, 58, 59, 60, 61, 62, 63, 64, 65, 66, 67] (by decide +kernel) (by decide +kernel)
set_option maxRecDepth 20000 in
theorem gX5_coreSize_X5_coreOrder : GoodIn wsX5_coreSize (wsV RX5 158 RX5 yX5_coreOrder wsX5_coreOrder) := goodIn_app (goodIn_of _ (by decide +kernel)) ggX5_coreSize_X5_coreOrder
theorem dX5_coreSize_0 : decode cX5_coreSize 0 = .ok (.aload_n 0, 1) := by decide +kernel
theorem dX5_coreSize_1 : decode cX5_coreSize 1 = .ok (.aload_n 0, 1) := by decide +kernel
theorem dX5_coreSize_2 : decode cX5_coreSize 2 = .ok (.getfield 10, 3) := by decide +kernel
theorem dX5_coreSize_5 : decode cX5_coreSize 5 = .ok (.invokevirtual 158, 3) := by decide +kernel
theorem dX5_coreSize_8 : decode cX5_coreSize 8 = .ok (.ireturn, 1) := by decide +kernel
set_option maxRecDepth 20000 in
theorem ggX5_save_X2_copy : GoodIn wsX5_save wsX2_copy := goodIn_r _ [7, 8, 9, 10, 11, 6, 12, 13, 14, 15, 16, 17, 18, 19, 20, 21, 22, 23, 24, 25, 26, 27, 28, 29, 30, 31, 32, 45, 46] (by decide +kernel) (by decide +kernel)
set_option maxRecDepth 20000 in
theorem gX5_save_X2_copy : GoodIn wsX5_save (wsV RX5 161 RX2 yX2_copy wsX2_copy) := goodIn_app (goodIn_of _ (by decide +kernel)) ggX5_save_X2_copy
set_option maxRecDepth 20000 in
theorem ggX5_save_X2_order : GoodIn wsX5_save wsX2_order := goodIn_r _ [36, 8, 45, 46] (by decide +kernel) (by decide +kernel)
set_option maxRecDepth 20000 in
theorem gX5_save_X2_order : GoodIn wsX5_save (wsV RX5 60 RX2 yX2_order wsX2_order) := goodIn_app (goodIn_of _ (by decide +kernel)) ggX5_save_X2_order
theorem dX5_save_0 : decode cX5_save 0 = .ok (.aload_n 0, 1) := by decide +kernel
theorem dX5_save_1 : decode cX5_save 1 = .ok (.getfield 16, 3) := by decide +kernel
theorem dX5_save_4 : decode cX5_save 4 = .ok (.aload_n 0, 1) := by decide +kernel
theorem dX5_save_5 : decode cX5_save 5 = .ok (.getfield 10, 3) := by decide +kernel
theorem dX5_save_8 : decode cX5_save 8 = .ok (.invokevirtual 161, 3) := by decide +kernel
theorem dX5_save_11 : decode cX5_save 11 = .ok (.aload_n 0, 1) := by decide +kernel
theorem dX5_save_12 : decode cX5_save 12 = .ok (.getfield 10, 3) := by decide +kernel
theorem dX5_save_15 : decode cX5_save 15 = .ok (.invokevirtual 60, 3) := by decide +kernel
theorem dX5_save_18 : decode cX5_save 18 = .ok (.ireturn, 1) := by decide +kernel
set_option maxRecDepth 20000 in
theorem ggX5_swapSaved_X1_remember : GoodIn wsX5_swapSaved wsX1_remember := goodIn_r _ [9, 10, 11, 12, 13, 14, 15, 16, 17, 18, 19, 20, 21, 22, 23, 24, 25, 26, 27, 28, 29, 30, 31, 32, 33, 34, 35, 36, 37, 38, 39, 40, 41, 42, 43, 44, 58, 59, 60, 61, 62, 63] (by decide +kernel) (by decide +kernel)
set_option maxRecDepth 20000 in
theorem gX5_swapSaved_X1_remember : GoodIn wsX5_swapSaved (wsV RX5 64 RX1 yX1_remember wsX1_remember) := goodIn_app (goodIn_of _ (by decide +kernel)) ggX5_swapSaved_X1_remember
set_option maxRecDepth 20000 in
theorem ggX5_swapSaved_X2_copy : GoodIn wsX5_swapSaved wsX2_copy := goodIn_r _ [22, 23, 24, 25, 26, 21, 27, 28, 13, 14, 15, 29, 30, 31, 32, 33, 34, 35, 36, 37, 38, 39, 40, 41, 42, 43, 44, 62, 63] (by decide +kernel) (by decide +kernel)
set_option maxRecDepth 20000 in
theorem gX5_swapSaved_X2_copy : GoodIn wsX5_swapSaved (wsV RX5 161 RX2 yX2_copy wsX2_copy) := goodIn_app (goodIn_of _ (by decide +kernel)) ggX5_swapSaved_X2_copy
set_option maxRecDepth 20000 in
theorem ggX5_swapSaved_X2_order : GoodIn wsX5_swapSaved wsX2_order := goodIn_r _ [49, 23, 62, 63] (by decide +kernel) (by decide +kernel)
set_option maxRecDepth 20000 in
theorem gX5_swapSaved_X2_order : GoodIn wsX5_swapSaved (wsV RX5 60 RX2 yX2_order wsX2_order) := goodIn_app (goodIn_of _ (by decide +kernel)) ggX5_swapSaved_X2_order
theorem dX5_swapSaved_0 : decode cX5_swapSaved 0 = .ok (.aload_n 0, 1) := by decide +kernel
theorem dX5_swapSaved_1 : decode cX5_swapSaved 1 = .ok (.getfield 25, 3) := by decide +kernel
theorem dX5_swapSaved_4 : decode cX5_swapSaved 4 = .ok (.aload_n 0, 1) := by decide +kernel
theorem dX5_swapSaved_5 : decode cX5_swapSaved 5 = .ok (.getfield 10, 3) := by decide +kernel
theorem dX5_swapSaved_8 : decode cX5_swapSaved 8 = .ok (.aload_n 0, 1) := by decide +kernel
theorem dX5_swapSaved_9 : decode cX5_swapSaved 9 = .ok (.getfield 16, 3) := by decide +kernel
theorem dX5_swapSaved_12 : decode cX5_swapSaved 12 = .ok (.invokevirtual 64, 3) := by decide +kernel
theorem dX5_swapSaved_15 : decode cX5_swapSaved 15 = .ok (.aload_n 0, 1) := by decide +kernel
theorem dX5_swapSaved_16 : decode cX5_swapSaved 16 = .ok (.getfield 19, 3) := by decide +kernel
theorem dX5_swapSaved_19 : decode cX5_swapSaved 19 = .ok (.aload_n 0, 1) := by decide +kernel
theorem dX5_swapSaved_20 : decode cX5_swapSaved 20 = .ok (.getfield 10, 3) := by decide +kernel
theorem dX5_swapSaved_23 : decode cX5_swapSaved 23 = .ok (.invokevirtual 161, 3) := by decide +kernel
theorem dX5_swapSaved_26 : decode cX5_swapSaved 26 = .ok (.aload_n 0, 1) := by decide +kernel
theorem dX5_swapSaved_27 : decode cX5_swapSaved 27 = .ok (.getfield 10, 3) := by decide +kernel
theorem dX5_swapSaved_30 : decode cX5_swapSaved 30 = .ok (.aload_n 0, 1) := by decide +kernel
theorem dX5_swapSaved_31 : decode cX5_swapSaved 31 = .ok (.getfield 16, 3) := by decide +kernel
theorem dX5_swapSaved_34 : decode cX5_swapSaved 34 = .ok (.invokevirtual 161, 3) := by decide +kernel
theorem dX5_swapSaved_37 : decode cX5_swapSaved 37 = .ok (.aload_n 0, 1) := by decide +kernel
theorem dX5_swapSaved_38 : decode cX5_swapSaved 38 = .ok (.getfield 16, 3) := by decide +kernel
theorem dX5_swapSaved_41 : decode cX5_swapSaved 41 = .ok (.aload_n 0, 1) := by decide +kernel
theorem dX5_swapSaved_42 : decode cX5_swapSaved 42 = .ok (.getfield 19, 3) := by decide +kernel
theorem dX5_swapSaved_45 : decode cX5_swapSaved 45 = .ok (.invokevirtual 161, 3) := by decide +kernel
theorem dX5_swapSaved_48 : decode cX5_swapSaved 48 = .ok (.aload_n 0, 1) := by decide +kernel
theorem dX5_swapSaved_49 : decode cX5_swapSaved 49 = .ok (.getfield 10, 3) := by decide +kernel
theorem dX5_swapSaved_52 : decode cX5_swapSaved 52 = .ok (.invokevirtual 60, 3) := by decide +kernel
theorem dX5_swapSaved_55 : decode cX5_swapSaved 55 = .ok (.ireturn, 1) := by decide +kernel
set_option maxRecDepth 20000 in
theorem ggX5_differences_X5_polynomialsDiffer : GoodIn wsX5_differences wsX5_polynomialsDiffer := goodIn_r _ [7, 1, 2, 8, 9, 10, 6, 11, 12, 13, 14, 15, 16, 17, 18, 19, 20, 21, 22, 23, 24, 25, 26, 27, 28, 29, 30, 31, 32, 33, 34, 35, 36, 37, 38, 39, 40, 41, 42, 43, 44, 45, 46, 47, 48, 49, 50, 51, 52, 53, 54, 55, 56, 57, 58, 59, 128, 129, 130, 131, 132, 133, 134, 135, 136, 137, 138, 139, 140, 141] (by decide +kernel) (by decide +kernel)
set_option maxRecDepth 20000 in
theorem gX5_differences_X5_polynomialsDiffer : GoodIn wsX5_differences (wsV RX5 165 RX5 yX5_polynomialsDiffer wsX5_polynomialsDiffer) := goodIn_app (goodIn_of _ (by decide +kernel)) ggX5_differences_X5_polynomialsDiffer
set_option maxRecDepth 20000 in
theorem ggX5_differences_X5_groupsDiffer : GoodIn wsX5_differences wsX5_groupsDiffer := goodIn_r _ [63, 1, 2, 64, 65, 66, 6, 67, 68, 21, 22, 23, 24, 25, 69, 70, 71, 72, 12, 73, 13, 14, 15, 16, 17, 18, 19, 20, 26, 27, 28, 29, 30, 31, 32, 33, 34, 74, 75, 76, 77, 40, 41, 42, 43, 44, 45, 46, 47, 48, 49, 50, 39, 51, 52, 53, 54, 55, 56, 57, 58, 59, 78, 79, 80, 81, 82, 83, 84, 85, 86, 87, 128, 129, 130, 131, 132, 133, 134, 135, 140, 141, 136, 137, 138, 139] (by decide +kernel) (by decide +kernel)
set_option maxRecDepth 20000 in
theorem gX5_differences_X5_groupsDiffer : GoodIn wsX5_differences (wsV RX5 169 RX5 yX5_groupsDiffer wsX5_groupsDiffer) := goodIn_app (goodIn_of _ (by decide +kernel)) ggX5_differences_X5_groupsDiffer
set_option maxRecDepth 20000 in
theorem ggX5_differences_X5_coreOrder : GoodIn wsX5_differences wsX5_coreOrder := goodIn_r _ [91, 92, 93, 94, 95, 23, 96, 25, 97, 98, 99, 100, 101, 102, 84, 103, 104, 105, 106, 107, 27, 28, 29, 30, 31, 32, 33, 34, 108, 109, 110, 111, 112, 113, 114, 115, 116, 117, 118, 119, 120, 121, 122, 123, 124, 125, 126, 127, 68, 21, 22, 24, 128, 129, 130, 131, 132, 133, 134, 135, 140, 141] (by decide +kernel) (by decide +kernel)
set_option maxRecDepth 20000 in
theorem gX5_differences_X5_coreOrder : GoodIn wsX5_differences (wsV RX5 158 RX5 yX5_coreOrder wsX5_coreOrder) := goodIn_app (goodIn_of _ (by decide +kernel)) ggX5_differences_X5_coreOrder
theorem dX5_differences_0 : decode cX5_differences 0 = .ok (.iconst 0, 1) := by decide +kernel
theorem dX5_differences_1 : decode cX5_differences 1 = .ok (.istore_n 1, 1) := by decide +kernel
theorem dX5_differences_2 : decode cX5_differences 2 = .ok (.aload_n 0, 1) := by decide +kernel
theorem dX5_differences_3 : decode cX5_differences 3 = .ok (.invokevirtual 165, 3) := by decide +kernel
theorem dX5_differences_6 : decode cX5_differences 6 = .ok (.ifCond .eq 7, 3) := by decide +kernel
theorem dX5_differences_9 : decode cX5_differences 9 = .ok (.iload_n 1, 1) := by decide +kernel
theorem dX5_differences_10 : decode cX5_differences 10 = .ok (.iconst 1, 1) := by decide +kernel
theorem dX5_differences_11 : decode cX5_differences 11 = .ok (.ior, 1) := by decide +kernel
theorem dX5_differences_12 : decode cX5_differences 12 = .ok (.istore_n 1, 1) := by decide +kernel
theorem dX5_differences_13 : decode cX5_differences 13 = .ok (.aload_n 0, 1) := by decide +kernel
theorem dX5_differences_14 : decode cX5_differences 14 = .ok (.invokevirtual 169, 3) := by decide +kernel
theorem dX5_differences_17 : decode cX5_differences 17 = .ok (.ifCond .eq 7, 3) := by decide +kernel
theorem dX5_differences_20 : decode cX5_differences 20 = .ok (.iload_n 1, 1) := by decide +kernel
theorem dX5_differences_21 : decode cX5_differences 21 = .ok (.iconst 2, 1) := by decide +kernel
theorem dX5_differences_22 : decode cX5_differences 22 = .ok (.ior, 1) := by decide +kernel
theorem dX5_differences_23 : decode cX5_differences 23 = .ok (.istore_n 1, 1) := by decide +kernel
theorem dX5_differences_24 : decode cX5_differences 24 = .ok (.aload_n 0, 1) := by decide +kernel
theorem dX5_differences_25 : decode cX5_differences 25 = .ok (.aload_n 0, 1) := by decide +kernel
theorem dX5_differences_26 : decode cX5_differences 26 = .ok (.getfield 10, 3) := by decide +kernel
theorem dX5_differences_29 : decode cX5_differences 29 = .ok (.invokevirtual 158, 3) := by decide +kernel
theorem dX5_differences_32 : decode cX5_differences 32 = .ok (.aload_n 0, 1) := by decide +kernel
theorem dX5_differences_33 : decode cX5_differences 33 = .ok (.aload_n 0, 1) := by decide +kernel
theorem dX5_differences_34 : decode cX5_differences 34 = .ok (.getfield 16, 3) := by decide +kernel
theorem dX5_differences_37 : decode cX5_differences 37 = .ok (.invokevirtual 158, 3) := by decide +kernel
theorem dX5_differences_40 : decode cX5_differences 40 = .ok (.if_icmp .eq 7, 3) := by decide +kernel
theorem dX5_differences_43 : decode cX5_differences 43 = .ok (.iload_n 1, 1) := by decide +kernel
theorem dX5_differences_44 : decode cX5_differences 44 = .ok (.iconst 4, 1) := by decide +kernel
theorem dX5_differences_45 : decode cX5_differences 45 = .ok (.ior, 1) := by decide +kernel
theorem dX5_differences_46 : decode cX5_differences 46 = .ok (.istore_n 1, 1) := by decide +kernel
theorem dX5_differences_47 : decode cX5_differences 47 = .ok (.iload_n 1, 1) := by decide +kernel
theorem dX5_differences_48 : decode cX5_differences 48 = .ok (.ireturn, 1) := by decide +kernel
set_option maxRecDepth 20000 in
theorem ggX5_undo_X1_count : GoodIn wsX5_undo wsX1_count := goodIn_r _ [9, 10, 56, 57, 58, 59] (by decide +kernel) (by decide +kernel)
set_option maxRecDepth 20000 in
theorem gX5_undo_X1_count : GoodIn wsX5_undo (wsV RX5 172 RX1 yX1_count wsX1_count) := goodIn_app (goodIn_of _ (by decide +kernel)) ggX5_undo_X1_count
set_option maxRecDepth 20000 in
theorem ggX5_undo_X1_restore : GoodIn wsX5_undo wsX1_restore := goodIn_r _ [14, 15, 16, 17, 10, 18, 19, 20, 21, 22, 23, 24, 25, 26, 27, 28, 29, 30, 31, 32, 33, 34, 35, 36, 37, 38, 39, 40, 41, 42, 43, 44, 45, 46, 47, 56, 57, 58, 59, 60, 61] (by decide +kernel) (by decide +kernel)
set_option maxRecDepth 20000 in
theorem gX5_undo_X1_restore : GoodIn wsX5_undo (wsV RX5 175 RX1 yX1_restore wsX1_restore) := goodIn_app (goodIn_of _ (by decide +kernel)) ggX5_undo_X1_restore
theorem dX5_undo_0 : decode cX5_undo 0 = .ok (.aload_n 0, 1) := by decide +kernel
theorem dX5_undo_1 : decode cX5_undo 1 = .ok (.getfield 25, 3) := by decide +kernel
theorem dX5_undo_4 : decode cX5_undo 4 = .ok (.invokevirtual 172, 3) := by decide +kernel
theorem dX5_undo_7 : decode cX5_undo 7 = .ok (.ifCond .ne 6, 3) := by decide +kernel
theorem dX5_undo_10 : decode cX5_undo 10 = .ok (.ldc 86, 2) := by decide +kernel
theorem dX5_undo_12 : decode cX5_undo 12 = .ok (.ireturn, 1) := by decide +kernel
theorem dX5_undo_13 : decode cX5_undo 13 = .ok (.aload_n 0, 1) := by decide +kernel
theorem dX5_undo_14 : decode cX5_undo 14 = .ok (.getfield 25, 3) := by decide +kernel
theorem dX5_undo_17 : decode cX5_undo 17 = .ok (.aload_n 0, 1) := by decide +kernel
theorem dX5_undo_18 : decode cX5_undo 18 = .ok (.getfield 10, 3) := by decide +kernel
theorem dX5_undo_21 : decode cX5_undo 21 = .ok (.aload_n 0, 1) := by decide +kernel
theorem dX5_undo_22 : decode cX5_undo 22 = .ok (.getfield 16, 3) := by decide +kernel
theorem dX5_undo_25 : decode cX5_undo 25 = .ok (.invokevirtual 175, 3) := by decide +kernel
theorem dX5_undo_28 : decode cX5_undo 28 = .ok (.aload_n 0, 1) := by decide +kernel
theorem dX5_undo_29 : decode cX5_undo 29 = .ok (.getfield 25, 3) := by decide +kernel
theorem dX5_undo_32 : decode cX5_undo 32 = .ok (.invokevirtual 172, 3) := by decide +kernel
theorem dX5_undo_35 : decode cX5_undo 35 = .ok (.ireturn, 1) := by decide +kernel
theorem dX5_isWithin_0 : decode cX5_isWithin 0 = .ok (.iload_n 0, 1) := by decide +kernel
theorem dX5_isWithin_1 : decode cX5_isWithin 1 = .ok (.iload_n 1, 1) := by decide +kernel
theorem dX5_isWithin_2 : decode cX5_isWithin 2 = .ok (.if_icmp .lt 12, 3) := by decide +kernel
theorem dX5_isWithin_5 : decode cX5_isWithin 5 = .ok (.iload_n 0, 1) := by decide +kernel
theorem dX5_isWithin_6 : decode cX5_isWithin 6 = .ok (.iload_n 2, 1) := by decide +kernel
theorem dX5_isWithin_7 : decode cX5_isWithin 7 = .ok (.if_icmp .gt 7, 3) := by decide +kernel
theorem dX5_isWithin_10 : decode cX5_isWithin 10 = .ok (.iconst 1, 1) := by decide +kernel
theorem dX5_isWithin_11 : decode cX5_isWithin 11 = .ok (.goto 4, 3) := by decide +kernel
theorem dX5_isWithin_14 : decode cX5_isWithin 14 = .ok (.iconst 0, 1) := by decide +kernel
theorem dX5_isWithin_15 : decode cX5_isWithin 15 = .ok (.ireturn, 1) := by decide +kernel
theorem dX5_greatestCommonDivisor_0 : decode cX5_greatestCommonDivisor 0 = .ok (.lload_n 0, 1) := by decide +kernel
theorem dX5_greatestCommonDivisor_1 : decode cX5_greatestCommonDivisor 1 = .ok (.lstore 4, 2) := by decide +kernel
theorem dX5_greatestCommonDivisor_3 : decode cX5_greatestCommonDivisor 3 = .ok (.lload_n 2, 1) := by decide +kernel
theorem dX5_greatestCommonDivisor_4 : decode cX5_greatestCommonDivisor 4 = .ok (.lstore 6, 2) := by decide +kernel
theorem dX5_greatestCommonDivisor_6 : decode cX5_greatestCommonDivisor 6 = .ok (.iconst 0, 1) := by decide +kernel
theorem dX5_greatestCommonDivisor_7 : decode cX5_greatestCommonDivisor 7 = .ok (.istore 8, 2) := by decide +kernel
theorem dX5_greatestCommonDivisor_9 : decode cX5_greatestCommonDivisor 9 = .ok (.iload 8, 2) := by decide +kernel
theorem dX5_greatestCommonDivisor_11 : decode cX5_greatestCommonDivisor 11 = .ok (.sipush 128, 3) := by decide +kernel
theorem dX5_greatestCommonDivisor_14 : decode cX5_greatestCommonDivisor 14 = .ok (.if_icmp .ge 31, 3) := by decide +kernel
theorem dX5_greatestCommonDivisor_17 : decode cX5_greatestCommonDivisor 17 = .ok (.lload 6, 2) := by decide +kernel
theorem dX5_greatestCommonDivisor_19 : decode cX5_greatestCommonDivisor 19 = .ok (.lconst 0, 1) := by decide +kernel
theorem dX5_greatestCommonDivisor_20 : decode cX5_greatestCommonDivisor 20 = .ok (.lcmp, 1) := by decide +kernel
theorem dX5_greatestCommonDivisor_21 : decode cX5_greatestCommonDivisor 21 = .ok (.ifCond .eq 24, 3) := by decide +kernel
theorem dX5_greatestCommonDivisor_24 : decode cX5_greatestCommonDivisor 24 = .ok (.lload 4, 2) := by decide +kernel
theorem dX5_greatestCommonDivisor_26 : decode cX5_greatestCommonDivisor 26 = .ok (.lload 6, 2) := by decide +kernel
theorem dX5_greatestCommonDivisor_28 : decode cX5_greatestCommonDivisor 28 = .ok (.lrem, 1) := by decide +kernel
theorem dX5_greatestCommonDivisor_29 : decode cX5_greatestCommonDivisor 29 = .ok (.lstore 9, 2) := by decide +kernel
theorem dX5_greatestCommonDivisor_31 : decode cX5_greatestCommonDivisor 31 = .ok (.lload 6, 2) := by decide +kernel
theorem dX5_greatestCommonDivisor_33 : decode cX5_greatestCommonDivisor 33 = .ok (.lstore 4, 2) := by decide +kernel
theorem dX5_greatestCommonDivisor_35 : decode cX5_greatestCommonDivisor 35 = .ok (.lload 9, 2) := by decide +kernel
theorem dX5_greatestCommonDivisor_37 : decode cX5_greatestCommonDivisor 37 = .ok (.lstore 6, 2) := by decide +kernel
theorem dX5_greatestCommonDivisor_39 : decode cX5_greatestCommonDivisor 39 = .ok (.iinc 8 1, 3) := by decide +kernel
theorem dX5_greatestCommonDivisor_42 : decode cX5_greatestCommonDivisor 42 = .ok (.goto (-33), 3) := by decide +kernel
theorem dX5_greatestCommonDivisor_45 : decode cX5_greatestCommonDivisor 45 = .ok (.lload 4, 2) := by decide +kernel
theorem dX5_greatestCommonDivisor_47 : decode cX5_greatestCommonDivisor 47 = .ok (.lreturn, 1) := by decide +kernel
set_option maxRecDepth 20000 in
theorem ggX5_closedPaths_X2_order : GoodIn wsX5_closedPaths wsX2_order := goodIn_r _ [7, 8, 49, 50] (by decide +kernel) (by decide +kernel)
set_option maxRecDepth 20000 in
theorem gX5_closedPaths_X2_order : GoodIn wsX5_closedPaths (wsV RX5 60 RX2 yX2_order wsX2_order) := goodIn_app (goodIn_of _ (by decide +kernel)) ggX5_closedPaths_X2_order
set_option maxRecDepth 20000 in
theorem ggX5_closedPaths_X4_beginAt : GoodIn wsX5_closedPaths wsX4_beginAt := goodIn_r _ [13, 14, 51, 52] (by decide +kernel) (by decide +kernel)
set_option maxRecDepth 20000 in
theorem gX5_closedPaths_X4_beginAt : GoodIn wsX5_closedPaths (wsV RX5 93 RX4 yX4_beginAt wsX4_beginAt) := goodIn_app (goodIn_of _ (by decide +kernel)) ggX5_closedPaths_X4_beginAt
set_option maxRecDepth 20000 in
theorem ggX5_closedPaths_X4_go : GoodIn wsX5_closedPaths wsX4_go := goodIn_r _ [18, 19, 14, 20, 21, 22, 23, 24, 25, 26, 12, 27, 28, 29, 30, 6, 31, 32, 33, 34, 35, 36, 8, 51, 52, 49, 50] (by decide +kernel) (by decide +kernel)
set_option maxRecDepth 20000 in
theorem gX5_closedPaths_X4_go : GoodIn wsX5_closedPaths (wsV RX5 96 RX4 yX4_go wsX4_go) := goodIn_app (goodIn_of _ (by decide +kernel)) ggX5_closedPaths_X4_go
set_option maxRecDepth 20000 in
theorem ggX5_closedPaths_X4_endingAt : GoodIn wsX5_closedPaths wsX4_endingAt := goodIn_r _ [40, 14, 51, 52] (by decide +kernel) (by decide +kernel)
set_option maxRecDepth 20000 in
theorem gX5_closedPaths_X4_endingAt : GoodIn wsX5_closedPaths (wsV RX5 100 RX4 yX4_endingAt wsX4_endingAt) := goodIn_app (goodIn_of _ (by decide +kernel)) ggX5_closedPaths_X4_endingAt
theorem dX5_closedPaths_0 : decode cX5_closedPaths 0 = .ok (.lconst 0, 1) := by decide +kernel
theorem dX5_closedPaths_1 : decode cX5_closedPaths 1 = .ok (.lstore_n 2, 1) := by decide +kernel
theorem dX5_closedPaths_2 : decode cX5_closedPaths 2 = .ok (.iconst 0, 1) := by decide +kernel
theorem dX5_closedPaths_3 : decode cX5_closedPaths 3 = .ok (.istore 4, 2) := by decide +kernel
theorem dX5_closedPaths_5 : decode cX5_closedPaths 5 = .ok (.iload 4, 2) := by decide +kernel
theorem dX5_closedPaths_7 : decode cX5_closedPaths 7 = .ok (.aload_n 0, 1) := by decide +kernel
theorem dX5_closedPaths_8 : decode cX5_closedPaths 8 = .ok (.getfield 10, 3) := by decide +kernel
theorem dX5_closedPaths_11 : decode cX5_closedPaths 11 = .ok (.invokevirtual 60, 3) := by decide +kernel
theorem dX5_closedPaths_14 : decode cX5_closedPaths 14 = .ok (.if_icmp .ge 42, 3) := by decide +kernel
theorem dX5_closedPaths_17 : decode cX5_closedPaths 17 = .ok (.aload_n 0, 1) := by decide +kernel
theorem dX5_closedPaths_18 : decode cX5_closedPaths 18 = .ok (.getfield 32, 3) := by decide +kernel
theorem dX5_closedPaths_21 : decode cX5_closedPaths 21 = .ok (.iload 4, 2) := by decide +kernel
theorem dX5_closedPaths_23 : decode cX5_closedPaths 23 = .ok (.invokevirtual 93, 3) := by decide +kernel
theorem dX5_closedPaths_26 : decode cX5_closedPaths 26 = .ok (.aload_n 0, 1) := by decide +kernel
theorem dX5_closedPaths_27 : decode cX5_closedPaths 27 = .ok (.getfield 32, 3) := by decide +kernel
theorem dX5_closedPaths_30 : decode cX5_closedPaths 30 = .ok (.aload_n 0, 1) := by decide +kernel
theorem dX5_closedPaths_31 : decode cX5_closedPaths 31 = .ok (.getfield 10, 3) := by decide +kernel
theorem dX5_closedPaths_34 : decode cX5_closedPaths 34 = .ok (.iload_n 1, 1) := by decide +kernel
theorem dX5_closedPaths_35 : decode cX5_closedPaths 35 = .ok (.invokevirtual 96, 3) := by decide +kernel
theorem dX5_closedPaths_38 : decode cX5_closedPaths 38 = .ok (.lload_n 2, 1) := by decide +kernel
theorem dX5_closedPaths_39 : decode cX5_closedPaths 39 = .ok (.aload_n 0, 1) := by decide +kernel
theorem dX5_closedPaths_40 : decode cX5_closedPaths 40 = .ok (.getfield 32, 3) := by decide +kernel
theorem dX5_closedPaths_43 : decode cX5_closedPaths 43 = .ok (.iload 4, 2) := by decide +kernel
theorem dX5_closedPaths_45 : decode cX5_closedPaths 45 = .ok (.invokevirtual 100, 3) := by decide +kernel
theorem dX5_closedPaths_48 : decode cX5_closedPaths 48 = .ok (.ladd, 1) := by decide +kernel
theorem dX5_closedPaths_49 : decode cX5_closedPaths 49 = .ok (.lstore_n 2, 1) := by decide +kernel
theorem dX5_closedPaths_50 : decode cX5_closedPaths 50 = .ok (.iinc 4 1, 3) := by decide +kernel
theorem dX5_closedPaths_53 : decode cX5_closedPaths 53 = .ok (.goto (-48), 3) := by decide +kernel
theorem dX5_closedPaths_56 : decode cX5_closedPaths 56 = .ok (.lload_n 2, 1) := by decide +kernel
theorem dX5_closedPaths_57 : decode cX5_closedPaths 57 = .ok (.lreturn, 1) := by decide +kernel
theorem dX5_pointsOfLesserPeriods_0 : decode cX5_pointsOfLesserPeriods 0 = .ok (.lconst 0, 1) := by decide +kernel
theorem dX5_pointsOfLesserPeriods_1 : decode cX5_pointsOfLesserPeriods 1 = .ok (.lstore_n 2, 1) := by decide +kernel
theorem dX5_pointsOfLesserPeriods_2 : decode cX5_pointsOfLesserPeriods 2 = .ok (.iconst 1, 1) := by decide +kernel
theorem dX5_pointsOfLesserPeriods_3 : decode cX5_pointsOfLesserPeriods 3 = .ok (.istore 4, 2) := by decide +kernel
theorem dX5_pointsOfLesserPeriods_5 : decode cX5_pointsOfLesserPeriods 5 = .ok (.iload 4, 2) := by decide +kernel
theorem dX5_pointsOfLesserPeriods_7 : decode cX5_pointsOfLesserPeriods 7 = .ok (.iload_n 1, 1) := by decide +kernel
theorem dX5_pointsOfLesserPeriods_8 : decode cX5_pointsOfLesserPeriods 8 = .ok (.if_icmp .ge 26, 3) := by decide +kernel
theorem dX5_pointsOfLesserPeriods_11 : decode cX5_pointsOfLesserPeriods 11 = .ok (.iload_n 1, 1) := by decide +kernel
theorem dX5_pointsOfLesserPeriods_12 : decode cX5_pointsOfLesserPeriods 12 = .ok (.iload 4, 2) := by decide +kernel
theorem dX5_pointsOfLesserPeriods_14 : decode cX5_pointsOfLesserPeriods 14 = .ok (.irem, 1) := by decide +kernel
theorem dX5_pointsOfLesserPeriods_15 : decode cX5_pointsOfLesserPeriods 15 = .ok (.ifCond .ne 13, 3) := by decide +kernel
theorem dX5_pointsOfLesserPeriods_18 : decode cX5_pointsOfLesserPeriods 18 = .ok (.lload_n 2, 1) := by decide +kernel
theorem dX5_pointsOfLesserPeriods_19 : decode cX5_pointsOfLesserPeriods 19 = .ok (.aload_n 0, 1) := by decide +kernel
theorem dX5_pointsOfLesserPeriods_20 : decode cX5_pointsOfLesserPeriods 20 = .ok (.getfield 47, 3) := by decide +kernel
theorem dX5_pointsOfLesserPeriods_23 : decode cX5_pointsOfLesserPeriods 23 = .ok (.iload 4, 2) := by decide +kernel
theorem dX5_pointsOfLesserPeriods_25 : decode cX5_pointsOfLesserPeriods 25 = .ok (.laload, 1) := by decide +kernel
theorem dX5_pointsOfLesserPeriods_26 : decode cX5_pointsOfLesserPeriods 26 = .ok (.ladd, 1) := by decide +kernel
theorem dX5_pointsOfLesserPeriods_27 : decode cX5_pointsOfLesserPeriods 27 = .ok (.lstore_n 2, 1) := by decide +kernel
theorem dX5_pointsOfLesserPeriods_28 : decode cX5_pointsOfLesserPeriods 28 = .ok (.iinc 4 1, 3) := by decide +kernel
theorem dX5_pointsOfLesserPeriods_31 : decode cX5_pointsOfLesserPeriods 31 = .ok (.goto (-26), 3) := by decide +kernel
theorem dX5_pointsOfLesserPeriods_34 : decode cX5_pointsOfLesserPeriods 34 = .ok (.lload_n 2, 1) := by decide +kernel
theorem dX5_pointsOfLesserPeriods_35 : decode cX5_pointsOfLesserPeriods 35 = .ok (.lreturn, 1) := by decide +kernel
set_option maxRecDepth 20000 in
theorem ggX5_zetaCoefficient_X3_take : GoodIn wsX5_zetaCoefficient wsX3_take := goodIn_r _ [6, 7, 8, 9, 10, 11, 12, 13, 14, 15, 16, 17, 18, 19, 20, 21, 22, 23, 57, 58, 59, 60, 61, 62] (by decide +kernel) (by decide +kernel)
set_option maxRecDepth 20000 in
theorem gX5_zetaCoefficient_X3_take : GoodIn wsX5_zetaCoefficient (wsV RX5 140 RX3 yX3_take wsX3_take) := goodIn_app (goodIn_of _ (by decide +kernel)) ggX5_zetaCoefficient_X3_take
set_option maxRecDepth 20000 in
theorem ggX5_zetaCoefficient_X3_principalSum : GoodIn wsX5_zetaCoefficient wsX3_principalSum := goodIn_r _ [27, 7, 28, 29, 30, 31, 32, 33, 34, 35, 36, 37, 38, 5, 39, 40, 41, 42, 43, 44, 45, 46, 47, 48, 8, 57, 58, 59, 60] (by decide +kernel) (by decide +kernel)
set_option maxRecDepth 20000 in
theorem gX5_zetaCoefficient_X3_principalSum : GoodIn wsX5_zetaCoefficient (wsV RX5 178 RX3 yX3_principalSum wsX3_principalSum) := goodIn_app (goodIn_of _ (by decide +kernel)) ggX5_zetaCoefficient_X3_principalSum
theorem dX5_zetaCoefficient_0 : decode cX5_zetaCoefficient 0 = .ok (.aload_n 0, 1) := by decide +kernel
theorem dX5_zetaCoefficient_1 : decode cX5_zetaCoefficient 1 = .ok (.getfield 39, 3) := by decide +kernel
theorem dX5_zetaCoefficient_4 : decode cX5_zetaCoefficient 4 = .ok (.aload_n 1, 1) := by decide +kernel
theorem dX5_zetaCoefficient_5 : decode cX5_zetaCoefficient 5 = .ok (.lconst 0, 1) := by decide +kernel
theorem dX5_zetaCoefficient_6 : decode cX5_zetaCoefficient 6 = .ok (.lconst 1, 1) := by decide +kernel
theorem dX5_zetaCoefficient_7 : decode cX5_zetaCoefficient 7 = .ok (.invokevirtual 140, 3) := by decide +kernel
theorem dX5_zetaCoefficient_10 : decode cX5_zetaCoefficient 10 = .ok (.aload_n 0, 1) := by decide +kernel
theorem dX5_zetaCoefficient_11 : decode cX5_zetaCoefficient 11 = .ok (.getfield 39, 3) := by decide +kernel
theorem dX5_zetaCoefficient_14 : decode cX5_zetaCoefficient 14 = .ok (.iload_n 2, 1) := by decide +kernel
theorem dX5_zetaCoefficient_15 : decode cX5_zetaCoefficient 15 = .ok (.invokevirtual 178, 3) := by decide +kernel
theorem dX5_zetaCoefficient_18 : decode cX5_zetaCoefficient 18 = .ok (.lstore_n 3, 1) := by decide +kernel
theorem dX5_zetaCoefficient_19 : decode cX5_zetaCoefficient 19 = .ok (.iload_n 2, 1) := by decide +kernel
theorem dX5_zetaCoefficient_20 : decode cX5_zetaCoefficient 20 = .ok (.iconst 2, 1) := by decide +kernel
theorem dX5_zetaCoefficient_21 : decode cX5_zetaCoefficient 21 = .ok (.irem, 1) := by decide +kernel
theorem dX5_zetaCoefficient_22 : decode cX5_zetaCoefficient 22 = .ok (.ifCond .ne 7, 3) := by decide +kernel
theorem dX5_zetaCoefficient_25 : decode cX5_zetaCoefficient 25 = .ok (.lload_n 3, 1) := by decide +kernel
theorem dX5_zetaCoefficient_26 : decode cX5_zetaCoefficient 26 = .ok (.goto 5, 3) := by decide +kernel
theorem dX5_zetaCoefficient_29 : decode cX5_zetaCoefficient 29 = .ok (.lload_n 3, 1) := by decide +kernel
theorem dX5_zetaCoefficient_30 : decode cX5_zetaCoefficient 30 = .ok (.lneg, 1) := by decide +kernel
theorem dX5_zetaCoefficient_31 : decode cX5_zetaCoefficient 31 = .ok (.lreturn, 1) := by decide +kernel
set_option maxRecDepth 20000 in
theorem ggX5_radiusIsBelow_X3_take : GoodIn wsX5_radiusIsBelow wsX3_take := goodIn_r _ [8, 9, 10, 11, 12, 13, 14, 15, 16, 17, 18, 19, 20, 21, 22, 23, 24, 25, 59, 60, 61, 62, 63, 64] (by decide +kernel) (by decide +kernel)
set_option maxRecDepth 20000 in
theorem gX5_radiusIsBelow_X3_take : GoodIn wsX5_radiusIsBelow (wsV RX5 140 RX3 yX3_take wsX3_take) := goodIn_app (goodIn_of _ (by decide +kernel)) ggX5_radiusIsBelow_X3_take
set_option maxRecDepth 20000 in
theorem ggX5_radiusIsBelow_X3_leadingArePositive : GoodIn wsX5_radiusIsBelow wsX3_leadingArePositive := goodIn_r _ [29, 9, 30, 31, 32, 33, 7, 34, 35, 36, 37, 38, 39, 40, 41, 42, 43, 44, 45, 46, 47, 48, 49, 50, 10, 59, 60, 61, 62] (by decide +kernel) (by decide +kernel)
set_option maxRecDepth 20000 in
theorem gX5_radiusIsBelow_X3_leadingArePositive : GoodIn wsX5_radiusIsBelow (wsV RX5 183 RX3 yX3_leadingArePositive wsX3_leadingArePositive) := goodIn_app (goodIn_of _ (by decide +kernel)) ggX5_radiusIsBelow_X3_leadingArePositive
theorem dX5_radiusIsBelow_0 : decode cX5_radiusIsBelow 0 = .ok (.aload_n 0, 1) := by decide +kernel
theorem dX5_radiusIsBelow_1 : decode cX5_radiusIsBelow 1 = .ok (.getfield 39, 3) := by decide +kernel
theorem dX5_radiusIsBelow_4 : decode cX5_radiusIsBelow 4 = .ok (.aload_n 0, 1) := by decide +kernel
theorem dX5_radiusIsBelow_5 : decode cX5_radiusIsBelow 5 = .ok (.getfield 10, 3) := by decide +kernel
theorem dX5_radiusIsBelow_8 : decode cX5_radiusIsBelow 8 = .ok (.iload_n 1, 1) := by decide +kernel
theorem dX5_radiusIsBelow_9 : decode cX5_radiusIsBelow 9 = .ok (.i2l, 1) := by decide +kernel
theorem dX5_radiusIsBelow_10 : decode cX5_radiusIsBelow 10 = .ok (.ldc2_w 181, 3) := by decide +kernel
theorem dX5_radiusIsBelow_13 : decode cX5_radiusIsBelow 13 = .ok (.invokevirtual 140, 3) := by decide +kernel
theorem dX5_radiusIsBelow_16 : decode cX5_radiusIsBelow 16 = .ok (.aload_n 0, 1) := by decide +kernel
theorem dX5_radiusIsBelow_17 : decode cX5_radiusIsBelow 17 = .ok (.getfield 39, 3) := by decide +kernel
theorem dX5_radiusIsBelow_20 : decode cX5_radiusIsBelow 20 = .ok (.invokevirtual 183, 3) := by decide +kernel
theorem dX5_radiusIsBelow_23 : decode cX5_radiusIsBelow 23 = .ok (.ireturn, 1) := by decide +kernel
set_option maxRecDepth 20000 in
theorem ggX5_groupFactor_X3_take : GoodIn wsX5_groupFactor wsX3_take := goodIn_r _ [7, 8, 9, 10, 11, 12, 13, 14, 15, 16, 17, 18, 19, 20, 21, 22, 23, 24, 69, 70, 71, 72, 73, 74] (by decide +kernel) (by decide +kernel)
set_option maxRecDepth 20000 in
theorem gX5_groupFactor_X3_take : GoodIn wsX5_groupFactor (wsV RX5 140 RX3 yX3_take wsX3_take) := goodIn_app (goodIn_of _ (by decide +kernel)) ggX5_groupFactor_X3_take
set_option maxRecDepth 20000 in
theorem ggX5_groupFactor_X3_commonDivisor : GoodIn wsX5_groupFactor wsX3_commonDivisor := goodIn_r _ [28, 8, 29, 30, 31, 32, 33, 34, 35, 36, 37, 38, 6, 39, 40, 41, 42, 43, 44, 45, 46, 47, 48, 49, 9, 50, 51, 52, 53, 54, 55, 56, 57, 58, 59, 60, 69, 70, 71, 72] (by decide +kernel) (by decide +kernel)
set_option maxRecDepth 20000 in
theorem gX5_groupFactor_X3_commonDivisor : GoodIn wsX5_groupFactor (wsV RX5 186 RX3 yX3_commonDivisor wsX3_commonDivisor) := goodIn_app (goodIn_of _ (by decide +kernel)) ggX5_groupFactor_X3_commonDivisor
theorem dX5_groupFactor_0 : decode cX5_groupFactor 0 = .ok (.aload_n 0, 1) := by decide +kernel
theorem dX5_groupFactor_1 : decode cX5_groupFactor 1 = .ok (.getfield 39, 3) := by decide +kernel
theorem dX5_groupFactor_4 : decode cX5_groupFactor 4 = .ok (.aload_n 1, 1) := by decide +kernel
theorem dX5_groupFactor_5 : decode cX5_groupFactor 5 = .ok (.lconst 1, 1) := by decide +kernel
theorem dX5_groupFactor_6 : decode cX5_groupFactor 6 = .ok (.ldc2_w 138, 3) := by decide +kernel
theorem dX5_groupFactor_9 : decode cX5_groupFactor 9 = .ok (.invokevirtual 140, 3) := by decide +kernel
theorem dX5_groupFactor_12 : decode cX5_groupFactor 12 = .ok (.aload_n 0, 1) := by decide +kernel
theorem dX5_groupFactor_13 : decode cX5_groupFactor 13 = .ok (.getfield 39, 3) := by decide +kernel
theorem dX5_groupFactor_16 : decode cX5_groupFactor 16 = .ok (.iload_n 2, 1) := by decide +kernel
theorem dX5_groupFactor_17 : decode cX5_groupFactor 17 = .ok (.invokevirtual 186, 3) := by decide +kernel
theorem dX5_groupFactor_20 : decode cX5_groupFactor 20 = .ok (.lstore_n 3, 1) := by decide +kernel
theorem dX5_groupFactor_21 : decode cX5_groupFactor 21 = .ok (.aload_n 0, 1) := by decide +kernel
theorem dX5_groupFactor_22 : decode cX5_groupFactor 22 = .ok (.getfield 39, 3) := by decide +kernel
theorem dX5_groupFactor_25 : decode cX5_groupFactor 25 = .ok (.iload_n 2, 1) := by decide +kernel
theorem dX5_groupFactor_26 : decode cX5_groupFactor 26 = .ok (.iconst 1, 1) := by decide +kernel
theorem dX5_groupFactor_27 : decode cX5_groupFactor 27 = .ok (.isub, 1) := by decide +kernel
theorem dX5_groupFactor_28 : decode cX5_groupFactor 28 = .ok (.invokevirtual 186, 3) := by decide +kernel
theorem dX5_groupFactor_31 : decode cX5_groupFactor 31 = .ok (.lstore 5, 2) := by decide +kernel
theorem dX5_groupFactor_33 : decode cX5_groupFactor 33 = .ok (.lload 5, 2) := by decide +kernel
theorem dX5_groupFactor_35 : decode cX5_groupFactor 35 = .ok (.lconst 0, 1) := by decide +kernel
theorem dX5_groupFactor_36 : decode cX5_groupFactor 36 = .ok (.lcmp, 1) := by decide +kernel
theorem dX5_groupFactor_37 : decode cX5_groupFactor 37 = .ok (.ifCond .ne 7, 3) := by decide +kernel
theorem dX5_groupFactor_40 : decode cX5_groupFactor 40 = .ok (.lconst 0, 1) := by decide +kernel
theorem dX5_groupFactor_41 : decode cX5_groupFactor 41 = .ok (.goto 7, 3) := by decide +kernel
theorem dX5_groupFactor_44 : decode cX5_groupFactor 44 = .ok (.lload_n 3, 1) := by decide +kernel
theorem dX5_groupFactor_45 : decode cX5_groupFactor 45 = .ok (.lload 5, 2) := by decide +kernel
theorem dX5_groupFactor_47 : decode cX5_groupFactor 47 = .ok (.ldiv, 1) := by decide +kernel
theorem dX5_groupFactor_48 : decode cX5_groupFactor 48 = .ok (.lreturn, 1) := by decide +kernel
set_option maxRecDepth 20000 in
theorem ggX5_split_X2_has : GoodIn wsX5_split wsX2_has := goodIn_r _ [13, 14, 76, 77] (by decide +kernel) (by decide +kernel)
set_option maxRecDepth 20000 in
theorem gX5_split_X2_has : GoodIn wsX5_split (wsV RX5 68 RX2 yX2_has wsX2_has) := goodIn_app (goodIn_of _ (by decide +kernel)) ggX5_split_X2_has
set_option maxRecDepth 20000 in
theorem ggX5_split_X5_load : GoodIn wsX5_split wsX5_load := goodIn_r _ [18, 19, 20, 21, 12, 22, 14, 23, 24, 25, 26, 27, 28, 29, 30, 31, 32, 33, 34, 35, 36, 37, 38, 39, 10, 11, 13, 40, 41, 42, 43, 44, 45, 46, 47, 76, 77] (by decide +kernel) (by decide +kernel)
set_option maxRecDepth 20000 in
theorem gX5_split_X5_load : GoodIn wsX5_split (va_wsS RX5 189 yX5_load wsX5_load) := goodIn_app (goodIn_of _ (by decide +kernel)) ggX5_split_X5_load
set_option maxRecDepth 20000 in
theorem ggX5_split_X2_cell : GoodIn wsX5_split wsX2_cell := goodIn_r _ [37, 38, 39, 10, 11, 12, 13, 14, 76, 77] (by decide +kernel) (by decide +kernel)
set_option maxRecDepth 20000 in
theorem gX5_split_X2_cell : GoodIn wsX5_split (wsV RX5 72 RX2 yX2_cell wsX2_cell) := goodIn_app (goodIn_of _ (by decide +kernel)) ggX5_split_X2_cell
set_option maxRecDepth 20000 in
theorem ggX5_split_X2_order : GoodIn wsX5_split wsX2_order := goodIn_r _ [52, 14, 76, 77] (by decide +kernel) (by decide +kernel)
set_option maxRecDepth 20000 in
theorem gX5_split_X2_order : GoodIn wsX5_split (wsV RX5 60 RX2 yX2_order wsX2_order) := goodIn_app (goodIn_of _ (by decide +kernel)) ggX5_split_X2_order
set_option maxRecDepth 20000 in
theorem ggX5_split_X2_splitRow : GoodIn wsX5_split wsX2_splitRow := goodIn_r _ [56, 14, 23, 24, 25, 12, 26, 27, 28, 29, 30, 31, 32, 33, 34, 35, 36, 37, 38, 39, 10, 11, 13, 40, 41, 42, 43, 76, 77] (by decide +kernel) (by decide +kernel)
set_option maxRecDepth 20000 in
theorem gX5_split_X2_splitRow : GoodIn wsX5_split (wsV RX5 194 RX2 yX2_splitRow wsX2_splitRow) := goodIn_app (goodIn_of _ (by decide +kernel)) ggX5_split_X2_splitRow
set_option maxRecDepth 20000 in
theorem ggX5_split_X1_remember : GoodIn wsX5_split wsX1_remember := goodIn_r _ [61, 62, 63, 64, 28, 29, 30, 65, 66, 67, 20, 21, 12, 22, 14, 23, 24, 25, 26, 27, 31, 32, 33, 34, 35, 36, 37, 38, 39, 10, 11, 13, 40, 41, 42, 43, 78, 79, 80, 81, 76, 77] (by decide +kernel) (by decide +kernel)
set_option maxRecDepth 20000 in
theorem gX5_split_X1_remember : GoodIn wsX5_split (wsV RX5 64 RX1 yX1_remember wsX1_remember) := goodIn_app (goodIn_of _ (by decide +kernel)) ggX5_split_X1_remember
theorem dX5_split_0 : decode cX5_split 0 = .ok (.aload_n 0, 1) := by decide +kernel
theorem dX5_split_1 : decode cX5_split 1 = .ok (.getfield 10, 3) := by decide +kernel
theorem dX5_split_4 : decode cX5_split 4 = .ok (.iload_n 1, 1) := by decide +kernel
theorem dX5_split_5 : decode cX5_split 5 = .ok (.invokevirtual 68, 3) := by decide +kernel
theorem dX5_split_8 : decode cX5_split 8 = .ok (.ifCond .ne 6, 3) := by decide +kernel
theorem dX5_split_11 : decode cX5_split 11 = .ok (.ldc 59, 2) := by decide +kernel
theorem dX5_split_13 : decode cX5_split 13 = .ok (.ireturn, 1) := by decide +kernel
theorem dX5_split_14 : decode cX5_split 14 = .ok (.aload_n 0, 1) := by decide +kernel
theorem dX5_split_15 : decode cX5_split 15 = .ok (.getfield 19, 3) := by decide +kernel
theorem dX5_split_18 : decode cX5_split 18 = .ok (.aload_n 0, 1) := by decide +kernel
theorem dX5_split_19 : decode cX5_split 19 = .ok (.getfield 10, 3) := by decide +kernel
theorem dX5_split_22 : decode cX5_split 22 = .ok (.iload_n 2, 1) := by decide +kernel
theorem dX5_split_23 : decode cX5_split 23 = .ok (.invokestatic 189, 3) := by decide +kernel
theorem dX5_split_26 : decode cX5_split 26 = .ok (.iconst 0, 1) := by decide +kernel
theorem dX5_split_27 : decode cX5_split 27 = .ok (.istore_n 3, 1) := by decide +kernel
theorem dX5_split_28 : decode cX5_split 28 = .ok (.iload_n 3, 1) := by decide +kernel
theorem dX5_split_29 : decode cX5_split 29 = .ok (.bipush 6, 2) := by decide +kernel
theorem dX5_split_31 : decode cX5_split 31 = .ok (.if_icmp .ge 41, 3) := by decide +kernel
theorem dX5_split_34 : decode cX5_split 34 = .ok (.aload_n 0, 1) := by decide +kernel
theorem dX5_split_35 : decode cX5_split 35 = .ok (.getfield 19, 3) := by decide +kernel
theorem dX5_split_38 : decode cX5_split 38 = .ok (.iload_n 3, 1) := by decide +kernel
theorem dX5_split_39 : decode cX5_split 39 = .ok (.invokevirtual 68, 3) := by decide +kernel
theorem dX5_split_42 : decode cX5_split 42 = .ok (.ifCond .eq 24, 3) := by decide +kernel
theorem dX5_split_45 : decode cX5_split 45 = .ok (.aload_n 0, 1) := by decide +kernel
theorem dX5_split_46 : decode cX5_split 46 = .ok (.getfield 43, 3) := by decide +kernel
theorem dX5_split_49 : decode cX5_split 49 = .ok (.iload_n 3, 1) := by decide +kernel
theorem dX5_split_50 : decode cX5_split 50 = .ok (.iaload, 1) := by decide +kernel
theorem dX5_split_51 : decode cX5_split 51 = .ok (.aload_n 0, 1) := by decide +kernel
theorem dX5_split_52 : decode cX5_split 52 = .ok (.getfield 19, 3) := by decide +kernel
theorem dX5_split_55 : decode cX5_split 55 = .ok (.iload_n 1, 1) := by decide +kernel
theorem dX5_split_56 : decode cX5_split 56 = .ok (.iload_n 3, 1) := by decide +kernel
theorem dX5_split_57 : decode cX5_split 57 = .ok (.invokevirtual 72, 3) := by decide +kernel
theorem dX5_split_60 : decode cX5_split 60 = .ok (.if_icmp .le 6, 3) := by decide +kernel
theorem dX5_split_63 : decode cX5_split 63 = .ok (.ldc 86, 2) := by decide +kernel
theorem dX5_split_65 : decode cX5_split 65 = .ok (.ireturn, 1) := by decide +kernel
theorem dX5_split_66 : decode cX5_split 66 = .ok (.iinc 3 1, 3) := by decide +kernel
theorem dX5_split_69 : decode cX5_split 69 = .ok (.goto (-41), 3) := by decide +kernel
theorem dX5_split_72 : decode cX5_split 72 = .ok (.aload_n 0, 1) := by decide +kernel
theorem dX5_split_73 : decode cX5_split 73 = .ok (.getfield 10, 3) := by decide +kernel
theorem dX5_split_76 : decode cX5_split 76 = .ok (.invokevirtual 60, 3) := by decide +kernel
theorem dX5_split_79 : decode cX5_split 79 = .ok (.bipush 6, 2) := by decide +kernel
theorem dX5_split_81 : decode cX5_split 81 = .ok (.if_icmp .ne 6, 3) := by decide +kernel
theorem dX5_split_84 : decode cX5_split 84 = .ok (.ldc 193, 2) := by decide +kernel
theorem dX5_split_86 : decode cX5_split 86 = .ok (.ireturn, 1) := by decide +kernel
theorem dX5_split_87 : decode cX5_split 87 = .ok (.aload_n 0, 1) := by decide +kernel
theorem dX5_split_88 : decode cX5_split 88 = .ok (.getfield 19, 3) := by decide +kernel
theorem dX5_split_91 : decode cX5_split 91 = .ok (.iload_n 1, 1) := by decide +kernel
theorem dX5_split_92 : decode cX5_split 92 = .ok (.aload_n 0, 1) := by decide +kernel
theorem dX5_split_93 : decode cX5_split 93 = .ok (.getfield 43, 3) := by decide +kernel
theorem dX5_split_96 : decode cX5_split 96 = .ok (.invokevirtual 194, 3) := by decide +kernel
theorem dX5_split_99 : decode cX5_split 99 = .ok (.aload_n 0, 1) := by decide +kernel
theorem dX5_split_100 : decode cX5_split 100 = .ok (.getfield 25, 3) := by decide +kernel
theorem dX5_split_103 : decode cX5_split 103 = .ok (.aload_n 0, 1) := by decide +kernel
theorem dX5_split_104 : decode cX5_split 104 = .ok (.getfield 10, 3) := by decide +kernel
theorem dX5_split_107 : decode cX5_split 107 = .ok (.aload_n 0, 1) := by decide +kernel
theorem dX5_split_108 : decode cX5_split 108 = .ok (.getfield 16, 3) := by decide +kernel
theorem dX5_split_111 : decode cX5_split 111 = .ok (.invokevirtual 64, 3) := by decide +kernel
theorem dX5_split_114 : decode cX5_split 114 = .ok (.aload_n 0, 1) := by decide +kernel
theorem dX5_split_115 : decode cX5_split 115 = .ok (.getfield 10, 3) := by decide +kernel
theorem dX5_split_118 : decode cX5_split 118 = .ok (.aload_n 0, 1) := by decide +kernel
theorem dX5_split_119 : decode cX5_split 119 = .ok (.getfield 19, 3) := by decide +kernel
theorem dX5_split_122 : decode cX5_split 122 = .ok (.iload_n 2, 1) := by decide +kernel
theorem dX5_split_123 : decode cX5_split 123 = .ok (.invokestatic 189, 3) := by decide +kernel
theorem dX5_split_126 : decode cX5_split 126 = .ok (.aload_n 0, 1) := by decide +kernel
theorem dX5_split_127 : decode cX5_split 127 = .ok (.getfield 10, 3) := by decide +kernel
theorem dX5_split_130 : decode cX5_split 130 = .ok (.invokevirtual 60, 3) := by decide +kernel
theorem dX5_split_133 : decode cX5_split 133 = .ok (.ireturn, 1) := by decide +kernel
set_option maxRecDepth 20000 in
theorem ggX5_merge_X2_has : GoodIn wsX5_merge wsX2_has := goodIn_r _ [19, 20, 88, 89] (by decide +kernel) (by decide +kernel)
set_option maxRecDepth 20000 in
theorem gX5_merge_X2_has : GoodIn wsX5_merge (wsV RX5 68 RX2 yX2_has wsX2_has) := goodIn_app (goodIn_of _ (by decide +kernel)) ggX5_merge_X2_has
set_option maxRecDepth 20000 in
theorem ggX5_merge_X5_load : GoodIn wsX5_merge wsX5_load := goodIn_r _ [24, 25, 26, 27, 18, 28, 20, 29, 30, 31, 32, 33, 6, 7, 8, 34, 10, 11, 35, 36, 37, 38, 39, 40, 16, 17, 19, 41, 42, 43, 44, 45, 46, 47, 48, 88, 89] (by decide +kernel) (by decide +kernel)
set_option maxRecDepth 20000 in
theorem gX5_merge_X5_load : GoodIn wsX5_merge (va_wsS RX5 189 yX5_load wsX5_load) := goodIn_app (goodIn_of _ (by decide +kernel)) ggX5_merge_X5_load
set_option maxRecDepth 20000 in
theorem ggX5_merge_X2_columnsAreEqual : GoodIn wsX5_merge wsX2_columnsAreEqual := goodIn_r _ [52, 20, 35, 36, 37, 18, 38, 39, 40, 16, 17, 19, 88, 89] (by decide +kernel) (by decide +kernel)
set_option maxRecDepth 20000 in
theorem gX5_merge_X2_columnsAreEqual : GoodIn wsX5_merge (wsV RX5 198 RX2 yX2_columnsAreEqual wsX2_columnsAreEqual) := goodIn_app (goodIn_of _ (by decide +kernel)) ggX5_merge_X2_columnsAreEqual
set_option maxRecDepth 20000 in
theorem ggX5_merge_X2_mergeRows : GoodIn wsX5_merge wsX2_mergeRows := goodIn_r _ [56, 20, 35, 36, 37, 18, 38, 39, 40, 16, 17, 19, 41, 42, 43, 44, 57, 58, 59, 60, 29, 30, 31, 32, 33, 6, 7, 8, 34, 10, 11, 88, 89] (by decide +kernel) (by decide +kernel)
set_option maxRecDepth 20000 in
theorem gX5_merge_X2_mergeRows : GoodIn wsX5_merge (wsV RX5 210 RX2 yX2_mergeRows wsX2_mergeRows) := goodIn_app (goodIn_of _ (by decide +kernel)) ggX5_merge_X2_mergeRows
set_option maxRecDepth 20000 in
theorem ggX5_merge_X2_greatestCell : GoodIn wsX5_merge wsX2_greatestCell := goodIn_r _ [64, 20, 34, 10, 7, 11, 35, 36, 37, 18, 38, 39, 40, 16, 17, 19, 88, 89] (by decide +kernel) (by decide +kernel)
set_option maxRecDepth 20000 in
theorem gX5_merge_X2_greatestCell : GoodIn wsX5_merge (wsV RX5 111 RX2 yX2_greatestCell wsX2_greatestCell) := goodIn_app (goodIn_of _ (by decide +kernel)) ggX5_merge_X2_greatestCell
set_option maxRecDepth 20000 in
theorem ggX5_merge_X1_remember : GoodIn wsX5_merge wsX1_remember := goodIn_r _ [69, 70, 71, 72, 6, 7, 8, 73, 74, 75, 26, 27, 18, 28, 20, 29, 30, 31, 32, 33, 34, 10, 11, 35, 36, 37, 38, 39, 40, 16, 17, 19, 41, 42, 43, 44, 90, 91, 92, 93, 88, 89] (by decide +kernel) (by decide +kernel)
set_option maxRecDepth 20000 in
theorem gX5_merge_X1_remember : GoodIn wsX5_merge (wsV RX5 64 RX1 yX1_remember wsX1_remember) := goodIn_app (goodIn_of _ (by decide +kernel)) ggX5_merge_X1_remember
set_option maxRecDepth 20000 in
theorem ggX5_merge_X2_order : GoodIn wsX5_merge wsX2_order := goodIn_r _ [79, 20, 88, 89] (by decide +kernel) (by decide +kernel)
set_option maxRecDepth 20000 in
theorem gX5_merge_X2_order : GoodIn wsX5_merge (wsV RX5 60 RX2 yX2_order wsX2_order) := goodIn_app (goodIn_of _ (by decide +kernel)) ggX5_merge_X2_order
theorem dX5_merge_0 : decode cX5_merge 0 = .ok (.aload_n 0, 1) := by decide +kernel
theorem dX5_merge_1 : decode cX5_merge 1 = .ok (.getfield 10, 3) := by decide +kernel
theorem dX5_merge_4 : decode cX5_merge 4 = .ok (.iload_n 1, 1) := by decide +kernel
theorem dX5_merge_5 : decode cX5_merge 5 = .ok (.invokevirtual 68, 3) := by decide +kernel
theorem dX5_merge_8 : decode cX5_merge 8 = .ok (.ifCond .eq 19, 3) := by decide +kernel
theorem dX5_merge_11 : decode cX5_merge 11 = .ok (.aload_n 0, 1) := by decide +kernel
theorem dX5_merge_12 : decode cX5_merge 12 = .ok (.getfield 10, 3) := by decide +kernel
theorem dX5_merge_15 : decode cX5_merge 15 = .ok (.iload_n 2, 1) := by decide +kernel
theorem dX5_merge_16 : decode cX5_merge 16 = .ok (.invokevirtual 68, 3) := by decide +kernel
theorem dX5_merge_19 : decode cX5_merge 19 = .ok (.ifCond .eq 8, 3) := by decide +kernel
theorem dX5_merge_22 : decode cX5_merge 22 = .ok (.iload_n 1, 1) := by decide +kernel
theorem dX5_merge_23 : decode cX5_merge 23 = .ok (.iload_n 2, 1) := by decide +kernel
theorem dX5_merge_24 : decode cX5_merge 24 = .ok (.if_icmp .ne 6, 3) := by decide +kernel
theorem dX5_merge_27 : decode cX5_merge 27 = .ok (.ldc 59, 2) := by decide +kernel
theorem dX5_merge_29 : decode cX5_merge 29 = .ok (.ireturn, 1) := by decide +kernel
theorem dX5_merge_30 : decode cX5_merge 30 = .ok (.aload_n 0, 1) := by decide +kernel
theorem dX5_merge_31 : decode cX5_merge 31 = .ok (.getfield 19, 3) := by decide +kernel
theorem dX5_merge_34 : decode cX5_merge 34 = .ok (.aload_n 0, 1) := by decide +kernel
theorem dX5_merge_35 : decode cX5_merge 35 = .ok (.getfield 10, 3) := by decide +kernel
theorem dX5_merge_38 : decode cX5_merge 38 = .ok (.iload_n 3, 1) := by decide +kernel
theorem dX5_merge_39 : decode cX5_merge 39 = .ok (.invokestatic 189, 3) := by decide +kernel
theorem dX5_merge_42 : decode cX5_merge 42 = .ok (.aload_n 0, 1) := by decide +kernel
theorem dX5_merge_43 : decode cX5_merge 43 = .ok (.getfield 19, 3) := by decide +kernel
theorem dX5_merge_46 : decode cX5_merge 46 = .ok (.iload_n 1, 1) := by decide +kernel
theorem dX5_merge_47 : decode cX5_merge 47 = .ok (.iload_n 2, 1) := by decide +kernel
theorem dX5_merge_48 : decode cX5_merge 48 = .ok (.invokevirtual 198, 3) := by decide +kernel
theorem dX5_merge_51 : decode cX5_merge 51 = .ok (.ifCond .ne 6, 3) := by decide +kernel
theorem dX5_merge_54 : decode cX5_merge 54 = .ok (.ldc 86, 2) := by decide +kernel
theorem dX5_merge_56 : decode cX5_merge 56 = .ok (.ireturn, 1) := by decide +kernel
theorem dX5_merge_57 : decode cX5_merge 57 = .ok (.aload_n 0, 1) := by decide +kernel
theorem dX5_merge_58 : decode cX5_merge 58 = .ok (.getfield 19, 3) := by decide +kernel
theorem dX5_merge_61 : decode cX5_merge 61 = .ok (.iload_n 1, 1) := by decide +kernel
theorem dX5_merge_62 : decode cX5_merge 62 = .ok (.iload_n 2, 1) := by decide +kernel
theorem dX5_merge_63 : decode cX5_merge 63 = .ok (.invokestatic 202, 3) := by decide +kernel
theorem dX5_merge_66 : decode cX5_merge 66 = .ok (.iload_n 1, 1) := by decide +kernel
theorem dX5_merge_67 : decode cX5_merge 67 = .ok (.iload_n 2, 1) := by decide +kernel
theorem dX5_merge_68 : decode cX5_merge 68 = .ok (.invokestatic 207, 3) := by decide +kernel
theorem dX5_merge_71 : decode cX5_merge 71 = .ok (.invokevirtual 210, 3) := by decide +kernel
theorem dX5_merge_74 : decode cX5_merge 74 = .ok (.aload_n 0, 1) := by decide +kernel
theorem dX5_merge_75 : decode cX5_merge 75 = .ok (.getfield 19, 3) := by decide +kernel
theorem dX5_merge_78 : decode cX5_merge 78 = .ok (.invokevirtual 111, 3) := by decide +kernel
theorem dX5_merge_81 : decode cX5_merge 81 = .ok (.bipush 9, 2) := by decide +kernel
theorem dX5_merge_83 : decode cX5_merge 83 = .ok (.if_icmp .le 6, 3) := by decide +kernel
theorem dX5_merge_86 : decode cX5_merge 86 = .ok (.ldc 193, 2) := by decide +kernel
theorem dX5_merge_88 : decode cX5_merge 88 = .ok (.ireturn, 1) := by decide +kernel
theorem dX5_merge_89 : decode cX5_merge 89 = .ok (.aload_n 0, 1) := by decide +kernel
theorem dX5_merge_90 : decode cX5_merge 90 = .ok (.getfield 25, 3) := by decide +kernel
theorem dX5_merge_93 : decode cX5_merge 93 = .ok (.aload_n 0, 1) := by decide +kernel
theorem dX5_merge_94 : decode cX5_merge 94 = .ok (.getfield 10, 3) := by decide +kernel
theorem dX5_merge_97 : decode cX5_merge 97 = .ok (.aload_n 0, 1) := by decide +kernel
theorem dX5_merge_98 : decode cX5_merge 98 = .ok (.getfield 16, 3) := by decide +kernel
theorem dX5_merge_101 : decode cX5_merge 101 = .ok (.invokevirtual 64, 3) := by decide +kernel
theorem dX5_merge_104 : decode cX5_merge 104 = .ok (.aload_n 0, 1) := by decide +kernel
theorem dX5_merge_105 : decode cX5_merge 105 = .ok (.getfield 10, 3) := by decide +kernel
theorem dX5_merge_108 : decode cX5_merge 108 = .ok (.aload_n 0, 1) := by decide +kernel
theorem dX5_merge_109 : decode cX5_merge 109 = .ok (.getfield 19, 3) := by decide +kernel
theorem dX5_merge_112 : decode cX5_merge 112 = .ok (.iload_n 3, 1) := by decide +kernel
theorem dX5_merge_113 : decode cX5_merge 113 = .ok (.invokestatic 189, 3) := by decide +kernel
theorem dX5_merge_116 : decode cX5_merge 116 = .ok (.aload_n 0, 1) := by decide +kernel
theorem dX5_merge_117 : decode cX5_merge 117 = .ok (.getfield 10, 3) := by decide +kernel
theorem dX5_merge_120 : decode cX5_merge 120 = .ok (.invokevirtual 60, 3) := by decide +kernel
theorem dX5_merge_123 : decode cX5_merge 123 = .ok (.ireturn, 1) := by decide +kernel
set_option maxRecDepth 20000 in
theorem ggX5_load_X2_copy : GoodIn wsX5_load wsX2_copy := goodIn_r _ [5, 6, 7, 8, 9, 4, 10, 11, 12, 13, 14, 15, 16, 17, 18, 19, 20, 21, 22, 23, 24, 25, 26, 27, 28, 29, 30, 35, 36] (by decide +kernel) (by decide +kernel)
set_option maxRecDepth 20000 in
theorem gX5_load_X2_copy : GoodIn wsX5_load (wsV RX5 161 RX2 yX2_copy wsX2_copy) := goodIn_app (goodIn_of _ (by decide +kernel)) ggX5_load_X2_copy
set_option maxRecDepth 20000 in
theorem ggX5_load_X2_transpose : GoodIn wsX5_load wsX2_transpose := goodIn_r _ [34, 6, 18, 19, 20, 4, 21, 22, 23, 24, 25, 26, 27, 28, 29, 30, 35, 36] (by decide +kernel) (by decide +kernel)
set_option maxRecDepth 20000 in
theorem gX5_load_X2_transpose : GoodIn wsX5_load (wsV RX5 213 RX2 yX2_transpose wsX2_transpose) := goodIn_app (goodIn_of _ (by decide +kernel)) ggX5_load_X2_transpose
theorem dX5_load_0 : decode cX5_load 0 = .ok (.aload_n 0, 1) := by decide +kernel
theorem dX5_load_1 : decode cX5_load 1 = .ok (.aload_n 1, 1) := by decide +kernel
theorem dX5_load_2 : decode cX5_load 2 = .ok (.invokevirtual 161, 3) := by decide +kernel
theorem dX5_load_5 : decode cX5_load 5 = .ok (.iload_n 2, 1) := by decide +kernel
theorem dX5_load_6 : decode cX5_load 6 = .ok (.ifCond .eq 7, 3) := by decide +kernel
theorem dX5_load_9 : decode cX5_load 9 = .ok (.aload_n 0, 1) := by decide +kernel
theorem dX5_load_10 : decode cX5_load 10 = .ok (.invokevirtual 213, 3) := by decide +kernel
theorem dX5_load_13 : decode cX5_load 13 = .ok (.return_, 1) := by decide +kernel
set_option maxRecDepth 20000 in
theorem ggX5_coreOrder_X2_copy : GoodIn wsX5_coreOrder wsX2_copy := goodIn_r _ [6, 7, 8, 9, 10, 5, 11, 12, 13, 14, 15, 16, 17, 18, 19, 20, 21, 22, 23, 24, 25, 26, 27, 28, 29, 30, 31, 60, 61] (by decide +kernel) (by decide +kernel)
set_option maxRecDepth 20000 in
theorem gX5_coreOrder_X2_copy : GoodIn wsX5_coreOrder (wsV RX5 161 RX2 yX2_copy wsX2_copy) := goodIn_app (goodIn_of _ (by decide +kernel)) ggX5_coreOrder_X2_copy
set_option maxRecDepth 20000 in
theorem ggX5_coreOrder_X2_mergeSomeEqualColumns : GoodIn wsX5_coreOrder wsX2_mergeSomeEqualColumns := goodIn_r _ [35, 7, 36, 37, 38, 5, 39, 19, 20, 21, 22, 23, 24, 25, 26, 27, 40, 41, 42, 43, 28, 29, 30, 31, 44, 45, 46, 47, 8, 9, 10, 11, 12, 13, 14, 15, 16, 17, 18, 60, 61] (by decide +kernel) (by decide +kernel)
set_option maxRecDepth 20000 in
theorem gX5_coreOrder_X2_mergeSomeEqualColumns : GoodIn wsX5_coreOrder (wsV RX5 216 RX2 yX2_mergeSomeEqualColumns wsX2_mergeSomeEqualColumns) := goodIn_app (goodIn_of _ (by decide +kernel)) ggX5_coreOrder_X2_mergeSomeEqualColumns
set_option maxRecDepth 20000 in
theorem ggX5_coreOrder_X2_order : GoodIn wsX5_coreOrder wsX2_order := goodIn_r _ [51, 7, 60, 61] (by decide +kernel) (by decide +kernel)
set_option maxRecDepth 20000 in
theorem gX5_coreOrder_X2_order : GoodIn wsX5_coreOrder (wsV RX5 60 RX2 yX2_order wsX2_order) := goodIn_app (goodIn_of _ (by decide +kernel)) ggX5_coreOrder_X2_order
theorem dX5_coreOrder_0 : decode cX5_coreOrder 0 = .ok (.aload_n 0, 1) := by decide +kernel
theorem dX5_coreOrder_1 : decode cX5_coreOrder 1 = .ok (.getfield 19, 3) := by decide +kernel
theorem dX5_coreOrder_4 : decode cX5_coreOrder 4 = .ok (.aload_n 1, 1) := by decide +kernel
theorem dX5_coreOrder_5 : decode cX5_coreOrder 5 = .ok (.invokevirtual 161, 3) := by decide +kernel
theorem dX5_coreOrder_8 : decode cX5_coreOrder 8 = .ok (.iconst 1, 1) := by decide +kernel
theorem dX5_coreOrder_9 : decode cX5_coreOrder 9 = .ok (.istore_n 2, 1) := by decide +kernel
theorem dX5_coreOrder_10 : decode cX5_coreOrder 10 = .ok (.iconst 1, 1) := by decide +kernel
theorem dX5_coreOrder_11 : decode cX5_coreOrder 11 = .ok (.istore_n 3, 1) := by decide +kernel
theorem dX5_coreOrder_12 : decode cX5_coreOrder 12 = .ok (.iload_n 3, 1) := by decide +kernel
theorem dX5_coreOrder_13 : decode cX5_coreOrder 13 = .ok (.bipush 6, 2) := by decide +kernel
theorem dX5_coreOrder_15 : decode cX5_coreOrder 15 = .ok (.if_icmp .ge 21, 3) := by decide +kernel
theorem dX5_coreOrder_18 : decode cX5_coreOrder 18 = .ok (.iload_n 2, 1) := by decide +kernel
theorem dX5_coreOrder_19 : decode cX5_coreOrder 19 = .ok (.ifCond .eq 17, 3) := by decide +kernel
theorem dX5_coreOrder_22 : decode cX5_coreOrder 22 = .ok (.aload_n 0, 1) := by decide +kernel
theorem dX5_coreOrder_23 : decode cX5_coreOrder 23 = .ok (.getfield 19, 3) := by decide +kernel
theorem dX5_coreOrder_26 : decode cX5_coreOrder 26 = .ok (.invokevirtual 216, 3) := by decide +kernel
theorem dX5_coreOrder_29 : decode cX5_coreOrder 29 = .ok (.istore_n 2, 1) := by decide +kernel
theorem dX5_coreOrder_30 : decode cX5_coreOrder 30 = .ok (.iinc 3 1, 3) := by decide +kernel
theorem dX5_coreOrder_33 : decode cX5_coreOrder 33 = .ok (.goto (-21), 3) := by decide +kernel
theorem dX5_coreOrder_36 : decode cX5_coreOrder 36 = .ok (.aload_n 0, 1) := by decide +kernel
theorem dX5_coreOrder_37 : decode cX5_coreOrder 37 = .ok (.getfield 19, 3) := by decide +kernel
theorem dX5_coreOrder_40 : decode cX5_coreOrder 40 = .ok (.invokevirtual 60, 3) := by decide +kernel
theorem dX5_coreOrder_43 : decode cX5_coreOrder 43 = .ok (.ireturn, 1) := by decide +kernel
set_option maxRecDepth 20000 in
theorem ggX5_polynomialsDiffer_X5_zetaCoefficient : GoodIn wsX5_polynomialsDiffer wsX5_zetaCoefficient := goodIn_r _ [7, 8, 9, 10, 11, 12, 13, 14, 15, 16, 17, 18, 19, 20, 21, 22, 23, 24, 25, 26, 27, 28, 29, 30, 31, 32, 33, 34, 35, 36, 37, 38, 39, 40, 41, 42, 43, 44, 45, 46, 47, 48, 49, 50, 51, 52, 53, 54, 55, 56, 57, 58, 59, 60, 61, 62, 63, 64, 65, 66, 67, 68, 69] (by decide +kernel) (by decide +kernel)
set_option maxRecDepth 20000 in
theorem gX5_polynomialsDiffer_X5_zetaCoefficient : GoodIn wsX5_polynomialsDiffer (wsV RX5 131 RX5 yX5_zetaCoefficient wsX5_zetaCoefficient) := goodIn_app (goodIn_of _ (by decide +kernel)) ggX5_polynomialsDiffer_X5_zetaCoefficient
theorem dX5_polynomialsDiffer_0 : decode cX5_polynomialsDiffer 0 = .ok (.iconst 1, 1) := by decide +kernel
theorem dX5_polynomialsDiffer_1 : decode cX5_polynomialsDiffer 1 = .ok (.istore_n 1, 1) := by decide +kernel
theorem dX5_polynomialsDiffer_2 : decode cX5_polynomialsDiffer 2 = .ok (.iload_n 1, 1) := by decide +kernel
theorem dX5_polynomialsDiffer_3 : decode cX5_polynomialsDiffer 3 = .ok (.bipush 6, 2) := by decide +kernel
theorem dX5_polynomialsDiffer_5 : decode cX5_polynomialsDiffer 5 = .ok (.if_icmp .gt 33, 3) := by decide +kernel
theorem dX5_polynomialsDiffer_8 : decode cX5_polynomialsDiffer 8 = .ok (.aload_n 0, 1) := by decide +kernel
theorem dX5_polynomialsDiffer_9 : decode cX5_polynomialsDiffer 9 = .ok (.aload_n 0, 1) := by decide +kernel
theorem dX5_polynomialsDiffer_10 : decode cX5_polynomialsDiffer 10 = .ok (.getfield 10, 3) := by decide +kernel
theorem dX5_polynomialsDiffer_13 : decode cX5_polynomialsDiffer 13 = .ok (.iload_n 1, 1) := by decide +kernel
theorem dX5_polynomialsDiffer_14 : decode cX5_polynomialsDiffer 14 = .ok (.invokevirtual 131, 3) := by decide +kernel
theorem dX5_polynomialsDiffer_17 : decode cX5_polynomialsDiffer 17 = .ok (.aload_n 0, 1) := by decide +kernel
theorem dX5_polynomialsDiffer_18 : decode cX5_polynomialsDiffer 18 = .ok (.aload_n 0, 1) := by decide +kernel
theorem dX5_polynomialsDiffer_19 : decode cX5_polynomialsDiffer 19 = .ok (.getfield 16, 3) := by decide +kernel
theorem dX5_polynomialsDiffer_22 : decode cX5_polynomialsDiffer 22 = .ok (.iload_n 1, 1) := by decide +kernel
theorem dX5_polynomialsDiffer_23 : decode cX5_polynomialsDiffer 23 = .ok (.invokevirtual 131, 3) := by decide +kernel
theorem dX5_polynomialsDiffer_26 : decode cX5_polynomialsDiffer 26 = .ok (.lcmp, 1) := by decide +kernel
theorem dX5_polynomialsDiffer_27 : decode cX5_polynomialsDiffer 27 = .ok (.ifCond .eq 5, 3) := by decide +kernel
theorem dX5_polynomialsDiffer_30 : decode cX5_polynomialsDiffer 30 = .ok (.iconst 1, 1) := by decide +kernel
theorem dX5_polynomialsDiffer_31 : decode cX5_polynomialsDiffer 31 = .ok (.ireturn, 1) := by decide +kernel
theorem dX5_polynomialsDiffer_32 : decode cX5_polynomialsDiffer 32 = .ok (.iinc 1 1, 3) := by decide +kernel
theorem dX5_polynomialsDiffer_35 : decode cX5_polynomialsDiffer 35 = .ok (.goto (-33), 3) := by decide +kernel
theorem dX5_polynomialsDiffer_38 : decode cX5_polynomialsDiffer 38 = .ok (.iconst 0, 1) := by decide +kernel
theorem dX5_polynomialsDiffer_39 : decode cX5_polynomialsDiffer 39 = .ok (.ireturn, 1) := by decide +kernel
set_option maxRecDepth 20000 in
theorem ggX5_groupsDiffer_X5_factorFromLast : GoodIn wsX5_groupsDiffer wsX5_factorFromLast := goodIn_r _ [7, 8, 9, 10, 11, 12, 13, 14, 15, 16, 6, 17, 18, 19, 20, 21, 22, 23, 24, 25, 26, 27, 28, 29, 30, 31, 32, 33, 34, 35, 36, 37, 38, 39, 40, 41, 42, 43, 44, 45, 46, 47, 48, 49, 50, 51, 52, 53, 54, 55, 56, 57, 58, 59, 60, 61, 62, 63, 64, 65, 66, 67, 68, 69, 70, 71, 80, 81, 72, 73, 74, 75, 76, 77, 78, 79, 82, 83, 84, 85] (by decide +kernel) (by decide +kernel)
set_option maxRecDepth 20000 in
theorem gX5_groupsDiffer_X5_factorFromLast : GoodIn wsX5_groupsDiffer (wsV RX5 219 RX5 yX5_factorFromLast wsX5_factorFromLast) := goodIn_app (goodIn_of _ (by decide +kernel)) ggX5_groupsDiffer_X5_factorFromLast
theorem dX5_groupsDiffer_0 : decode cX5_groupsDiffer 0 = .ok (.iconst 0, 1) := by decide +kernel
theorem dX5_groupsDiffer_1 : decode cX5_groupsDiffer 1 = .ok (.istore_n 1, 1) := by decide +kernel
theorem dX5_groupsDiffer_2 : decode cX5_groupsDiffer 2 = .ok (.iload_n 1, 1) := by decide +kernel
theorem dX5_groupsDiffer_3 : decode cX5_groupsDiffer 3 = .ok (.bipush 6, 2) := by decide +kernel
theorem dX5_groupsDiffer_5 : decode cX5_groupsDiffer 5 = .ok (.if_icmp .ge 33, 3) := by decide +kernel
theorem dX5_groupsDiffer_8 : decode cX5_groupsDiffer 8 = .ok (.aload_n 0, 1) := by decide +kernel
theorem dX5_groupsDiffer_9 : decode cX5_groupsDiffer 9 = .ok (.aload_n 0, 1) := by decide +kernel
theorem dX5_groupsDiffer_10 : decode cX5_groupsDiffer 10 = .ok (.getfield 10, 3) := by decide +kernel
theorem dX5_groupsDiffer_13 : decode cX5_groupsDiffer 13 = .ok (.iload_n 1, 1) := by decide +kernel
theorem dX5_groupsDiffer_14 : decode cX5_groupsDiffer 14 = .ok (.invokevirtual 219, 3) := by decide +kernel
theorem dX5_groupsDiffer_17 : decode cX5_groupsDiffer 17 = .ok (.aload_n 0, 1) := by decide +kernel
theorem dX5_groupsDiffer_18 : decode cX5_groupsDiffer 18 = .ok (.aload_n 0, 1) := by decide +kernel
theorem dX5_groupsDiffer_19 : decode cX5_groupsDiffer 19 = .ok (.getfield 16, 3) := by decide +kernel
theorem dX5_groupsDiffer_22 : decode cX5_groupsDiffer 22 = .ok (.iload_n 1, 1) := by decide +kernel
theorem dX5_groupsDiffer_23 : decode cX5_groupsDiffer 23 = .ok (.invokevirtual 219, 3) := by decide +kernel
theorem dX5_groupsDiffer_26 : decode cX5_groupsDiffer 26 = .ok (.lcmp, 1) := by decide +kernel
theorem dX5_groupsDiffer_27 : decode cX5_groupsDiffer 27 = .ok (.ifCond .eq 5, 3) := by decide +kernel
theorem dX5_groupsDiffer_30 : decode cX5_groupsDiffer 30 = .ok (.iconst 1, 1) := by decide +kernel
theorem dX5_groupsDiffer_31 : decode cX5_groupsDiffer 31 = .ok (.ireturn, 1) := by decide +kernel
theorem dX5_groupsDiffer_32 : decode cX5_groupsDiffer 32 = .ok (.iinc 1 1, 3) := by decide +kernel
theorem dX5_groupsDiffer_35 : decode cX5_groupsDiffer 35 = .ok (.goto (-33), 3) := by decide +kernel
theorem dX5_groupsDiffer_38 : decode cX5_groupsDiffer 38 = .ok (.iconst 0, 1) := by decide +kernel
theorem dX5_groupsDiffer_39 : decode cX5_groupsDiffer 39 = .ok (.ireturn, 1) := by decide +kernel
set_option maxRecDepth 20000 in
theorem ggX5_factorFromLast_X2_order : GoodIn wsX5_factorFromLast wsX2_order := goodIn_r _ [5, 6, 66, 67] (by decide +kernel) (by decide +kernel)
set_option maxRecDepth 20000 in
theorem gX5_factorFromLast_X2_order : GoodIn wsX5_factorFromLast (wsV RX5 60 RX2 yX2_order wsX2_order) := goodIn_app (goodIn_of _ (by decide +kernel)) ggX5_factorFromLast_X2_order
set_option maxRecDepth 20000 in
theorem ggX5_factorFromLast_X5_groupFactor : GoodIn wsX5_factorFromLast wsX5_groupFactor := goodIn_r _ [11, 12, 13, 14, 15, 16, 17, 18, 19, 20, 21, 2, 3, 4, 5, 6, 22, 23, 24, 25, 26, 27, 28, 29, 30, 31, 32, 33, 34, 35, 36, 37, 38, 39, 40, 41, 42, 43, 44, 45, 46, 47, 48, 49, 50, 51, 52, 53, 54, 55, 56, 57, 58, 59, 60, 61, 62, 63, 64, 10, 65, 68, 69, 70, 71, 72, 73, 74, 75, 76, 77, 78, 79, 66, 67] (by decide +kernel) (by decide +kernel)
set_option maxRecDepth 20000 in
theorem gX5_factorFromLast_X5_groupFactor : GoodIn wsX5_factorFromLast (wsV RX5 147 RX5 yX5_groupFactor wsX5_groupFactor) := goodIn_app (goodIn_of _ (by decide +kernel)) ggX5_factorFromLast_X5_groupFactor
theorem dX5_factorFromLast_0 : decode cX5_factorFromLast 0 = .ok (.aload_n 1, 1) := by decide +kernel
theorem dX5_factorFromLast_1 : decode cX5_factorFromLast 1 = .ok (.invokevirtual 60, 3) := by decide +kernel
theorem dX5_factorFromLast_4 : decode cX5_factorFromLast 4 = .ok (.iload_n 2, 1) := by decide +kernel
theorem dX5_factorFromLast_5 : decode cX5_factorFromLast 5 = .ok (.isub, 1) := by decide +kernel
theorem dX5_factorFromLast_6 : decode cX5_factorFromLast 6 = .ok (.istore_n 3, 1) := by decide +kernel
theorem dX5_factorFromLast_7 : decode cX5_factorFromLast 7 = .ok (.iload_n 3, 1) := by decide +kernel
theorem dX5_factorFromLast_8 : decode cX5_factorFromLast 8 = .ok (.iconst 1, 1) := by decide +kernel
theorem dX5_factorFromLast_9 : decode cX5_factorFromLast 9 = .ok (.if_icmp .ge 7, 3) := by decide +kernel
theorem dX5_factorFromLast_12 : decode cX5_factorFromLast 12 = .ok (.lconst 1, 1) := by decide +kernel
theorem dX5_factorFromLast_13 : decode cX5_factorFromLast 13 = .ok (.goto 9, 3) := by decide +kernel
theorem dX5_factorFromLast_16 : decode cX5_factorFromLast 16 = .ok (.aload_n 0, 1) := by decide +kernel
theorem dX5_factorFromLast_17 : decode cX5_factorFromLast 17 = .ok (.aload_n 1, 1) := by decide +kernel
theorem dX5_factorFromLast_18 : decode cX5_factorFromLast 18 = .ok (.iload_n 3, 1) := by decide +kernel
theorem dX5_factorFromLast_19 : decode cX5_factorFromLast 19 = .ok (.invokevirtual 147, 3) := by decide +kernel
theorem dX5_factorFromLast_22 : decode cX5_factorFromLast 22 = .ok (.lreturn, 1) := by decide +kernel
