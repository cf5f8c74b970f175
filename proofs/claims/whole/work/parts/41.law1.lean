theorem kl_0 : Cond.methodLink RL 13 yX7_feed ∈ ALL := aw2 35 (by decide +kernel) rfl
theorem kv_X7_feed : Kv RX7 yX7_feed cX7_feed 2 (some .int) 1 := ⟨⟨aw2 36 (by decide +kernel) rfl, aw2 37 (by decide +kernel) rfl, aw1 1 (by decide +kernel) rfl, aw2 38 (by decide +kernel) rfl⟩, by decide +kernel⟩
theorem kl_1 : Cond.methodLink RL 17 yX8_feed ∈ ALL := aw4 150 (by decide +kernel) rfl
theorem kv_X8_feed : Kv RX8 yX8_feed cX8_feed 2 (some .int) 1 := ⟨⟨aw4 151 (by decide +kernel) rfl, aw4 152 (by decide +kernel) rfl, aw1 9 (by decide +kernel) rfl, aw4 153 (by decide +kernel) rfl⟩, by decide +kernel⟩
theorem kl_2 : Cond.methodLink RL 18 yX7_end ∈ ALL := aw2 46 (by decide +kernel) rfl
theorem kv_X7_end : Kv RX7 yX7_end cX7_end 3 (some .int) 1 := ⟨⟨aw2 47 (by decide +kernel) rfl, aw2 48 (by decide +kernel) rfl, aw1 1 (by decide +kernel) rfl, aw2 49 (by decide +kernel) rfl⟩, by decide +kernel⟩
theorem kl_3 : Cond.methodLink RL 21 yX8_end ∈ ALL := aw4 158 (by decide +kernel) rfl
theorem kv_X8_end : Kv RX8 yX8_end cX8_end 3 (some .int) 1 := ⟨⟨aw4 159 (by decide +kernel) rfl, aw4 160 (by decide +kernel) rfl, aw1 9 (by decide +kernel) rfl, aw4 161 (by decide +kernel) rfl⟩, by decide +kernel⟩
theorem kl_4 : Cond.methodLink RL 22 yX7_text ∈ ALL := aw2 50 (by decide +kernel) rfl
theorem kv_X7_text : Kv RX7 yX7_text cX7_text 3 (some .int) 0 := ⟨⟨aw2 51 (by decide +kernel) rfl, aw2 52 (by decide +kernel) rfl, aw1 1 (by decide +kernel) rfl, aw2 53 (by decide +kernel) rfl⟩, by decide +kernel⟩
theorem kl_5 : Cond.methodLink RL 26 yX8_text ∈ ALL := aw4 162 (by decide +kernel) rfl
theorem kv_X8_text : Kv RX8 yX8_text cX8_text 3 (some .int) 0 := ⟨⟨aw4 163 (by decide +kernel) rfl, aw4 164 (by decide +kernel) rfl, aw1 9 (by decide +kernel) rfl, aw4 165 (by decide +kernel) rfl⟩, by decide +kernel⟩
theorem kl_6 : Cond.methodLink RL 27 yX7_fault ∈ ALL := aw2 179 (by decide +kernel) rfl
theorem kv_X7_fault : Kv RX7 yX7_fault cX7_fault 1 (some .int) 0 := ⟨⟨aw2 180 (by decide +kernel) rfl, aw2 181 (by decide +kernel) rfl, aw1 1 (by decide +kernel) rfl, aw2 182 (by decide +kernel) rfl⟩, by decide +kernel⟩
theorem kl_7 : Cond.methodLink RL 30 yX8_fault ∈ ALL := aw4 199 (by decide +kernel) rfl
theorem kv_X8_fault : Kv RX8 yX8_fault cX8_fault 1 (some .int) 0 := ⟨⟨aw4 200 (by decide +kernel) rfl, aw4 201 (by decide +kernel) rfl, aw1 9 (by decide +kernel) rfl, aw4 202 (by decide +kernel) rfl⟩, by decide +kernel⟩
theorem kl_8 : Cond.methodLink RL 31 yX7_rule ∈ ALL := aw2 183 (by decide +kernel) rfl
theorem kv_X7_rule : Kv RX7 yX7_rule cX7_rule 2 (some .int) 1 := ⟨⟨aw2 184 (by decide +kernel) rfl, aw2 185 (by decide +kernel) rfl, aw1 1 (by decide +kernel) rfl, aw2 186 (by decide +kernel) rfl⟩, by decide +kernel⟩
theorem kl_9 : Cond.methodLink RL 34 yX8_rule ∈ ALL := aw4 203 (by decide +kernel) rfl
theorem kv_X8_rule : Kv RX8 yX8_rule cX8_rule 7 (some .int) 1 := ⟨⟨aw4 204 (by decide +kernel) rfl, aw4 205 (by decide +kernel) rfl, aw1 9 (by decide +kernel) rfl, aw4 206 (by decide +kernel) rfl⟩, by decide +kernel⟩
theorem kl_10 : Cond.methodLink RL 35 yX7_gate ∈ ALL := aw2 220 (by decide +kernel) rfl
theorem kv_X7_gate : Kv RX7 yX7_gate cX7_gate 3 (some .int) 2 := ⟨⟨aw2 221 (by decide +kernel) rfl, aw2 222 (by decide +kernel) rfl, aw1 1 (by decide +kernel) rfl, aw2 223 (by decide +kernel) rfl⟩, by decide +kernel⟩
theorem kl_11 : Cond.methodLink RL 39 yX8_gate ∈ ALL := aw4 223 (by decide +kernel) rfl
theorem kv_X8_gate : Kv RX8 yX8_gate cX8_gate 5 (some .int) 2 := ⟨⟨aw4 224 (by decide +kernel) rfl, aw4 225 (by decide +kernel) rfl, aw1 9 (by decide +kernel) rfl, aw4 226 (by decide +kernel) rfl⟩, by decide +kernel⟩
theorem kl_12 : Cond.methodLink RL 40 yX7_taker ∈ ALL := aw2 235 (by decide +kernel) rfl
theorem kv_X7_taker : Kv RX7 yX7_taker cX7_taker 3 (some .int) 2 := ⟨⟨aw2 236 (by decide +kernel) rfl, aw2 237 (by decide +kernel) rfl, aw1 1 (by decide +kernel) rfl, aw2 238 (by decide +kernel) rfl⟩, by decide +kernel⟩
theorem kl_13 : Cond.methodLink RL 43 yX8_taker ∈ ALL := aw4 231 (by decide +kernel) rfl
theorem kv_X8_taker : Kv RX8 yX8_taker cX8_taker 3 (some .int) 2 := ⟨⟨aw4 232 (by decide +kernel) rfl, aw4 233 (by decide +kernel) rfl, aw1 9 (by decide +kernel) rfl, aw4 234 (by decide +kernel) rfl⟩, by decide +kernel⟩
theorem kl_14 : Cond.methodLink RL 44 yX7_keeper ∈ ALL := aw3 10 (by decide +kernel) rfl
theorem kv_X7_keeper : Kv RX7 yX7_keeper cX7_keeper 3 (some .int) 2 := ⟨⟨aw3 11 (by decide +kernel) rfl, aw3 12 (by decide +kernel) rfl, aw1 1 (by decide +kernel) rfl, aw3 13 (by decide +kernel) rfl⟩, by decide +kernel⟩
theorem kl_15 : Cond.methodLink RL 47 yX8_keeper ∈ ALL := aw5 3 (by decide +kernel) rfl
theorem kv_X8_keeper : Kv RX8 yX8_keeper cX8_keeper 3 (some .int) 2 := ⟨⟨aw5 4 (by decide +kernel) rfl, aw5 5 (by decide +kernel) rfl, aw1 9 (by decide +kernel) rfl, aw5 6 (by decide +kernel) rfl⟩, by decide +kernel⟩
theorem kl_16 : Cond.methodLink RL 48 yX7_alter ∈ ALL := aw3 19 (by decide +kernel) rfl
theorem kv_X7_alter : Kv RX7 yX7_alter cX7_alter 4 (some .int) 3 := ⟨⟨aw3 20 (by decide +kernel) rfl, aw3 21 (by decide +kernel) rfl, aw1 1 (by decide +kernel) rfl, aw3 22 (by decide +kernel) rfl⟩, by decide +kernel⟩
theorem kl_17 : Cond.methodLink RL 52 yX8_alter ∈ ALL := aw5 11 (by decide +kernel) rfl
theorem kv_X8_alter : Kv RX8 yX8_alter cX8_alter 4 (some .int) 3 := ⟨⟨aw5 12 (by decide +kernel) rfl, aw5 13 (by decide +kernel) rfl, aw1 9 (by decide +kernel) rfl, aw5 14 (by decide +kernel) rfl⟩, by decide +kernel⟩
theorem kl_18 : Cond.methodLink RL 53 yX7_order ∈ ALL := aw3 26 (by decide +kernel) rfl
theorem kv_X7_order : Kv RX7 yX7_order cX7_order 4 (some .int) 3 := ⟨⟨aw3 27 (by decide +kernel) rfl, aw3 28 (by decide +kernel) rfl, aw1 1 (by decide +kernel) rfl, aw3 29 (by decide +kernel) rfl⟩, by decide +kernel⟩
theorem kl_19 : Cond.methodLink RL 56 yX8_order ∈ ALL := aw5 24 (by decide +kernel) rfl
theorem kv_X8_order : Kv RX8 yX8_order cX8_order 5 (some .int) 3 := ⟨⟨aw5 25 (by decide +kernel) rfl, aw5 26 (by decide +kernel) rfl, aw1 9 (by decide +kernel) rfl, aw5 27 (by decide +kernel) rfl⟩, by decide +kernel⟩
theorem kl_20 : Cond.methodLink RL 57 yX7_tend ∈ ALL := aw3 30 (by decide +kernel) rfl
theorem kv_X7_tend : Kv RX7 yX7_tend cX7_tend 4 (some .int) 3 := ⟨⟨aw3 31 (by decide +kernel) rfl, aw3 32 (by decide +kernel) rfl, aw1 1 (by decide +kernel) rfl, aw3 33 (by decide +kernel) rfl⟩, by decide +kernel⟩
theorem kl_21 : Cond.methodLink RL 60 yX8_tend ∈ ALL := aw5 29 (by decide +kernel) rfl
theorem kv_X8_tend : Kv RX8 yX8_tend cX8_tend 5 (some .int) 3 := ⟨⟨aw5 30 (by decide +kernel) rfl, aw5 31 (by decide +kernel) rfl, aw1 9 (by decide +kernel) rfl, aw5 32 (by decide +kernel) rfl⟩, by decide +kernel⟩
theorem kl_22 : Cond.methodLink RL 61 yX7_free ∈ ALL := aw3 34 (by decide +kernel) rfl
theorem kv_X7_free : Kv RX7 yX7_free cX7_free 2 (some .int) 1 := ⟨⟨aw3 35 (by decide +kernel) rfl, aw3 36 (by decide +kernel) rfl, aw1 1 (by decide +kernel) rfl, aw3 37 (by decide +kernel) rfl⟩, by decide +kernel⟩
theorem kl_23 : Cond.methodLink RL 64 yX8_free ∈ ALL := aw5 34 (by decide +kernel) rfl
theorem kv_X8_free : Kv RX8 yX8_free cX8_free 2 (some .int) 1 := ⟨⟨aw5 35 (by decide +kernel) rfl, aw5 36 (by decide +kernel) rfl, aw1 9 (by decide +kernel) rfl, aw5 37 (by decide +kernel) rfl⟩, by decide +kernel⟩
theorem kl_24 : Cond.methodLink RL 65 yX7_hire ∈ ALL := aw3 38 (by decide +kernel) rfl
theorem kv_X7_hire : Kv RX7 yX7_hire cX7_hire 4 (some .int) 3 := ⟨⟨aw3 39 (by decide +kernel) rfl, aw3 40 (by decide +kernel) rfl, aw1 1 (by decide +kernel) rfl, aw3 41 (by decide +kernel) rfl⟩, by decide +kernel⟩
theorem kl_25 : Cond.methodLink RL 68 yX8_hire ∈ ALL := aw5 38 (by decide +kernel) rfl
theorem kv_X8_hire : Kv RX8 yX8_hire cX8_hire 4 (some .int) 3 := ⟨⟨aw5 39 (by decide +kernel) rfl, aw5 40 (by decide +kernel) rfl, aw1 9 (by decide +kernel) rfl, aw5 41 (by decide +kernel) rfl⟩, by decide +kernel⟩
theorem kl_26 : Cond.methodLink RL 69 yX7_dismiss ∈ ALL := aw3 43 (by decide +kernel) rfl
theorem kv_X7_dismiss : Kv RX7 yX7_dismiss cX7_dismiss 3 (some .int) 1 := ⟨⟨aw3 44 (by decide +kernel) rfl, aw3 45 (by decide +kernel) rfl, aw1 1 (by decide +kernel) rfl, aw3 46 (by decide +kernel) rfl⟩, by decide +kernel⟩
theorem kl_27 : Cond.methodLink RL 72 yX8_dismiss ∈ ALL := aw5 46 (by decide +kernel) rfl
theorem kv_X8_dismiss : Kv RX8 yX8_dismiss cX8_dismiss 2 (some .int) 1 := ⟨⟨aw5 47 (by decide +kernel) rfl, aw5 48 (by decide +kernel) rfl, aw1 9 (by decide +kernel) rfl, aw5 49 (by decide +kernel) rfl⟩, by decide +kernel⟩
theorem kl_28 : Cond.methodLink RL 73 yX7_nights ∈ ALL := aw3 47 (by decide +kernel) rfl
theorem kv_X7_nights : Kv RX7 yX7_nights cX7_nights 4 (some .int) 1 := ⟨⟨aw3 48 (by decide +kernel) rfl, aw3 49 (by decide +kernel) rfl, aw1 1 (by decide +kernel) rfl, aw3 50 (by decide +kernel) rfl⟩, by decide +kernel⟩
theorem kl_29 : Cond.methodLink RL 76 yX8_nights ∈ ALL := aw5 50 (by decide +kernel) rfl
theorem kv_X8_nights : Kv RX8 yX8_nights cX8_nights 3 (some .int) 1 := ⟨⟨aw5 51 (by decide +kernel) rfl, aw5 52 (by decide +kernel) rfl, aw1 9 (by decide +kernel) rfl, aw5 53 (by decide +kernel) rfl⟩, by decide +kernel⟩
theorem kl_30 : Cond.methodLink RL 77 yX7_runs ∈ ALL := aw3 67 (by decide +kernel) rfl
theorem kv_X7_runs : Kv RX7 yX7_runs cX7_runs 3 (some .int) 2 := ⟨⟨aw3 68 (by decide +kernel) rfl, aw3 69 (by decide +kernel) rfl, aw1 1 (by decide +kernel) rfl, aw3 70 (by decide +kernel) rfl⟩, by decide +kernel⟩
theorem kl_31 : Cond.methodLink RL 80 yX8_runs ∈ ALL := aw5 67 (by decide +kernel) rfl
theorem kv_X8_runs : Kv RX8 yX8_runs cX8_runs 4 (some .int) 2 := ⟨⟨aw5 68 (by decide +kernel) rfl, aw5 69 (by decide +kernel) rfl, aw1 9 (by decide +kernel) rfl, aw5 70 (by decide +kernel) rfl⟩, by decide +kernel⟩
theorem kl_32 : Cond.methodLink RL 81 yX7_ahead ∈ ALL := aw3 91 (by decide +kernel) rfl
theorem kv_X7_ahead : Kv RX7 yX7_ahead cX7_ahead 4 (some .int) 3 := ⟨⟨aw3 92 (by decide +kernel) rfl, aw3 93 (by decide +kernel) rfl, aw1 1 (by decide +kernel) rfl, aw3 94 (by decide +kernel) rfl⟩, by decide +kernel⟩
theorem kl_33 : Cond.methodLink RL 84 yX8_ahead ∈ ALL := aw5 80 (by decide +kernel) rfl
theorem kv_X8_ahead : Kv RX8 yX8_ahead cX8_ahead 4 (some .int) 3 := ⟨⟨aw5 81 (by decide +kernel) rfl, aw5 82 (by decide +kernel) rfl, aw1 9 (by decide +kernel) rfl, aw5 83 (by decide +kernel) rfl⟩, by decide +kernel⟩
theorem kl_34 : Cond.methodLink RL 85 yX7_glow ∈ ALL := aw3 98 (by decide +kernel) rfl
theorem kv_X7_glow : Kv RX7 yX7_glow cX7_glow 3 (some .int) 2 := ⟨⟨aw3 99 (by decide +kernel) rfl, aw3 100 (by decide +kernel) rfl, aw1 1 (by decide +kernel) rfl, aw3 101 (by decide +kernel) rfl⟩, by decide +kernel⟩
theorem kl_35 : Cond.methodLink RL 88 yX8_glow ∈ ALL := aw5 84 (by decide +kernel) rfl
theorem kv_X8_glow : Kv RX8 yX8_glow cX8_glow 3 (some .int) 2 := ⟨⟨aw5 85 (by decide +kernel) rfl, aw5 86 (by decide +kernel) rfl, aw1 9 (by decide +kernel) rfl, aw5 87 (by decide +kernel) rfl⟩, by decide +kernel⟩
theorem kl_36 : Cond.methodLink RL 89 yX7_caught ∈ ALL := aw3 102 (by decide +kernel) rfl
theorem kv_X7_caught : Kv RX7 yX7_caught cX7_caught 3 (some .int) 1 := ⟨⟨aw3 103 (by decide +kernel) rfl, aw3 104 (by decide +kernel) rfl, aw1 1 (by decide +kernel) rfl, aw3 105 (by decide +kernel) rfl⟩, by decide +kernel⟩
theorem kl_37 : Cond.methodLink RL 92 yX8_caught ∈ ALL := aw5 88 (by decide +kernel) rfl
theorem kv_X8_caught : Kv RX8 yX8_caught cX8_caught 3 (some .int) 1 := ⟨⟨aw5 89 (by decide +kernel) rfl, aw5 90 (by decide +kernel) rfl, aw1 9 (by decide +kernel) rfl, aw5 91 (by decide +kernel) rfl⟩, by decide +kernel⟩
theorem kl_38 : Cond.methodLink RL 93 yX7_best ∈ ALL := aw3 111 (by decide +kernel) rfl
theorem kv_X7_best : Kv RX7 yX7_best cX7_best 4 (some .int) 3 := ⟨⟨aw3 112 (by decide +kernel) rfl, aw3 113 (by decide +kernel) rfl, aw1 1 (by decide +kernel) rfl, aw3 114 (by decide +kernel) rfl⟩, by decide +kernel⟩
theorem kl_39 : Cond.methodLink RL 96 yX8_best ∈ ALL := aw5 92 (by decide +kernel) rfl
theorem kv_X8_best : Kv RX8 yX8_best cX8_best 8 (some .int) 3 := ⟨⟨aw5 93 (by decide +kernel) rfl, aw5 94 (by decide +kernel) rfl, aw1 9 (by decide +kernel) rfl, aw5 95 (by decide +kernel) rfl⟩, by decide +kernel⟩
theorem kl_40 : Cond.methodLink RL 97 yX7_ripen ∈ ALL := aw3 119 (by decide +kernel) rfl
theorem kv_X7_ripen : Kv RX7 yX7_ripen cX7_ripen 4 (some .int) 3 := ⟨⟨aw3 120 (by decide +kernel) rfl, aw3 121 (by decide +kernel) rfl, aw1 1 (by decide +kernel) rfl, aw3 122 (by decide +kernel) rfl⟩, by decide +kernel⟩
theorem kl_41 : Cond.methodLink RL 100 yX8_ripen ∈ ALL := aw5 96 (by decide +kernel) rfl
theorem kv_X8_ripen : Kv RX8 yX8_ripen cX8_ripen 8 (some .int) 3 := ⟨⟨aw5 97 (by decide +kernel) rfl, aw5 98 (by decide +kernel) rfl, aw1 9 (by decide +kernel) rfl, aw5 99 (by decide +kernel) rfl⟩, by decide +kernel⟩
theorem kl_42 : Cond.methodLink RL 101 yX7_swap ∈ ALL := aw3 123 (by decide +kernel) rfl
theorem kv_X7_swap : Kv RX7 yX7_swap cX7_swap 7 (some .int) 2 := ⟨⟨aw3 124 (by decide +kernel) rfl, aw3 125 (by decide +kernel) rfl, aw1 1 (by decide +kernel) rfl, aw3 126 (by decide +kernel) rfl⟩, by decide +kernel⟩
theorem kl_43 : Cond.methodLink RL 104 yX8_swap ∈ ALL := aw5 100 (by decide +kernel) rfl
theorem kv_X8_swap : Kv RX8 yX8_swap cX8_swap 8 (some .int) 2 := ⟨⟨aw5 101 (by decide +kernel) rfl, aw5 102 (by decide +kernel) rfl, aw1 9 (by decide +kernel) rfl, aw5 103 (by decide +kernel) rfl⟩, by decide +kernel⟩
theorem kl_44 : Cond.methodLink RL 105 yX7_round ∈ ALL := aw3 127 (by decide +kernel) rfl
theorem kv_X7_round : Kv RX7 yX7_round cX7_round 8 (some .int) 3 := ⟨⟨aw3 128 (by decide +kernel) rfl, aw3 129 (by decide +kernel) rfl, aw1 1 (by decide +kernel) rfl, aw3 130 (by decide +kernel) rfl⟩, by decide +kernel⟩
theorem kl_45 : Cond.methodLink RL 108 yX8_round ∈ ALL := aw5 104 (by decide +kernel) rfl
theorem kv_X8_round : Kv RX8 yX8_round cX8_round 7 (some .int) 3 := ⟨⟨aw5 105 (by decide +kernel) rfl, aw5 106 (by decide +kernel) rfl, aw1 9 (by decide +kernel) rfl, aw5 107 (by decide +kernel) rfl⟩, by decide +kernel⟩
theorem kl_46 : Cond.methodLink RL 109 yX7_post ∈ ALL := aw3 131 (by decide +kernel) rfl
theorem kv_X7_post : Kv RX7 yX7_post cX7_post 7 (some .int) 3 := ⟨⟨aw3 132 (by decide +kernel) rfl, aw3 133 (by decide +kernel) rfl, aw1 1 (by decide +kernel) rfl, aw3 134 (by decide +kernel) rfl⟩, by decide +kernel⟩
theorem kl_47 : Cond.methodLink RL 112 yX8_post ∈ ALL := aw5 108 (by decide +kernel) rfl
theorem kv_X8_post : Kv RX8 yX8_post cX8_post 8 (some .int) 3 := ⟨⟨aw5 109 (by decide +kernel) rfl, aw5 110 (by decide +kernel) rfl, aw1 9 (by decide +kernel) rfl, aw5 111 (by decide +kernel) rfl⟩, by decide +kernel⟩
theorem kl_48 : Cond.methodLink RL 113 yX7_kind ∈ ALL := aw3 135 (by decide +kernel) rfl
theorem kv_X7_kind : Kv RX7 yX7_kind cX7_kind 4 (some .int) 3 := ⟨⟨aw3 136 (by decide +kernel) rfl, aw3 137 (by decide +kernel) rfl, aw1 1 (by decide +kernel) rfl, aw3 138 (by decide +kernel) rfl⟩, by decide +kernel⟩
theorem kl_49 : Cond.methodLink RL 116 yX8_kind ∈ ALL := aw5 113 (by decide +kernel) rfl
theorem kv_X8_kind : Kv RX8 yX8_kind cX8_kind 8 (some .int) 3 := ⟨⟨aw5 114 (by decide +kernel) rfl, aw5 115 (by decide +kernel) rfl, aw1 9 (by decide +kernel) rfl, aw5 116 (by decide +kernel) rfl⟩, by decide +kernel⟩
theorem kl_50 : Cond.methodLink RL 117 yX7_sharp ∈ ALL := aw3 139 (by decide +kernel) rfl
theorem kv_X7_sharp : Kv RX7 yX7_sharp cX7_sharp 5 (some .int) 3 := ⟨⟨aw3 140 (by decide +kernel) rfl, aw3 141 (by decide +kernel) rfl, aw1 1 (by decide +kernel) rfl, aw3 142 (by decide +kernel) rfl⟩, by decide +kernel⟩
theorem kl_51 : Cond.methodLink RL 120 yX8_sharp ∈ ALL := aw5 117 (by decide +kernel) rfl
theorem kv_X8_sharp : Kv RX8 yX8_sharp cX8_sharp 5 (some .int) 3 := ⟨⟨aw5 118 (by decide +kernel) rfl, aw5 119 (by decide +kernel) rfl, aw1 9 (by decide +kernel) rfl, aw5 120 (by decide +kernel) rfl⟩, by decide +kernel⟩
theorem kl_52 : Cond.methodLink RL 121 yX7_luck ∈ ALL := aw3 143 (by decide +kernel) rfl
theorem kv_X7_luck : Kv RX7 yX7_luck cX7_luck 10 (some .long) 4 := ⟨⟨aw3 144 (by decide +kernel) rfl, aw3 145 (by decide +kernel) rfl, aw1 1 (by decide +kernel) rfl, aw3 146 (by decide +kernel) rfl⟩, by decide +kernel⟩
theorem kl_53 : Cond.methodLink RL 125 yX8_luck ∈ ALL := aw5 121 (by decide +kernel) rfl
theorem kv_X8_luck : Kv RX8 yX8_luck cX8_luck 5 (some .long) 4 := ⟨⟨aw5 122 (by decide +kernel) rfl, aw5 123 (by decide +kernel) rfl, aw1 9 (by decide +kernel) rfl, aw5 124 (by decide +kernel) rfl⟩, by decide +kernel⟩
theorem kl_54 : Cond.methodLink RL 126 yX7_mean ∈ ALL := aw3 159 (by decide +kernel) rfl
theorem kv_X7_mean : Kv RX7 yX7_mean cX7_mean 11 (some .long) 3 := ⟨⟨aw3 160 (by decide +kernel) rfl, aw3 161 (by decide +kernel) rfl, aw1 1 (by decide +kernel) rfl, aw3 162 (by decide +kernel) rfl⟩, by decide +kernel⟩
theorem kl_55 : Cond.methodLink RL 130 yX8_mean ∈ ALL := aw5 135 (by decide +kernel) rfl
theorem kv_X8_mean : Kv RX8 yX8_mean cX8_mean 4 (some .long) 3 := ⟨⟨aw5 136 (by decide +kernel) rfl, aw5 137 (by decide +kernel) rfl, aw1 9 (by decide +kernel) rfl, aw5 138 (by decide +kernel) rfl⟩, by decide +kernel⟩
theorem kl_56 : Cond.methodLink RL 131 yX7_see ∈ ALL := aw3 170 (by decide +kernel) rfl
theorem kv_X7_see : Kv RX7 yX7_see cX7_see 4 (some .int) 3 := ⟨⟨aw3 171 (by decide +kernel) rfl, aw3 172 (by decide +kernel) rfl, aw1 1 (by decide +kernel) rfl, aw3 173 (by decide +kernel) rfl⟩, by decide +kernel⟩
theorem kl_57 : Cond.methodLink RL 134 yX8_see ∈ ALL := aw5 139 (by decide +kernel) rfl
theorem kv_X8_see : Kv RX8 yX8_see cX8_see 4 (some .int) 3 := ⟨⟨aw5 140 (by decide +kernel) rfl, aw5 141 (by decide +kernel) rfl, aw1 9 (by decide +kernel) rfl, aw5 142 (by decide +kernel) rfl⟩, by decide +kernel⟩
theorem kl_58 : Cond.methodLink RL 135 yX7_forget ∈ ALL := aw3 178 (by decide +kernel) rfl
theorem kv_X7_forget : Kv RX7 yX7_forget cX7_forget 3 (some .int) 1 := ⟨⟨aw3 179 (by decide +kernel) rfl, aw3 180 (by decide +kernel) rfl, aw1 1 (by decide +kernel) rfl, aw3 181 (by decide +kernel) rfl⟩, by decide +kernel⟩
theorem kl_59 : Cond.methodLink RL 138 yX8_forget ∈ ALL := aw5 144 (by decide +kernel) rfl
theorem kv_X8_forget : Kv RX8 yX8_forget cX8_forget 3 (some .int) 1 := ⟨⟨aw5 145 (by decide +kernel) rfl, aw5 146 (by decide +kernel) rfl, aw1 9 (by decide +kernel) rfl, aw5 147 (by decide +kernel) rfl⟩, by decide +kernel⟩
theorem kl_60 : Cond.methodLink RL 139 yX7_kinds ∈ ALL := aw3 182 (by decide +kernel) rfl
theorem kv_X7_kinds : Kv RX7 yX7_kinds cX7_kinds 2 (some .int) 1 := ⟨⟨aw3 183 (by decide +kernel) rfl, aw3 184 (by decide +kernel) rfl, aw1 1 (by decide +kernel) rfl, aw3 185 (by decide +kernel) rfl⟩, by decide +kernel⟩
theorem kl_61 : Cond.methodLink RL 142 yX8_kinds ∈ ALL := aw5 148 (by decide +kernel) rfl
theorem kv_X8_kinds : Kv RX8 yX8_kinds cX8_kinds 5 (some .int) 1 := ⟨⟨aw5 149 (by decide +kernel) rfl, aw5 150 (by decide +kernel) rfl, aw1 9 (by decide +kernel) rfl, aw5 151 (by decide +kernel) rfl⟩, by decide +kernel⟩
theorem kl_62 : Cond.methodLink RL 143 yX7_gates ∈ ALL := aw3 206 (by decide +kernel) rfl
theorem kv_X7_gates : Kv RX7 yX7_gates cX7_gates 2 (some .int) 1 := ⟨⟨aw3 207 (by decide +kernel) rfl, aw3 208 (by decide +kernel) rfl, aw1 1 (by decide +kernel) rfl, aw3 209 (by decide +kernel) rfl⟩, by decide +kernel⟩
theorem kl_63 : Cond.methodLink RL 146 yX8_gates ∈ ALL := aw5 156 (by decide +kernel) rfl
theorem kv_X8_gates : Kv RX8 yX8_gates cX8_gates 2 (some .int) 1 := ⟨⟨aw5 157 (by decide +kernel) rfl, aw5 158 (by decide +kernel) rfl, aw1 9 (by decide +kernel) rfl, aw5 159 (by decide +kernel) rfl⟩, by decide +kernel⟩
theorem kl_64 : Cond.methodLink RL 147 yX7_ask ∈ ALL := aw3 210 (by decide +kernel) rfl
theorem kv_X7_ask : Kv RX7 yX7_ask cX7_ask 9 (some .int) 2 := ⟨⟨aw3 211 (by decide +kernel) rfl, aw3 212 (by decide +kernel) rfl, aw1 1 (by decide +kernel) rfl, aw3 213 (by decide +kernel) rfl⟩, by decide +kernel⟩
theorem kl_65 : Cond.methodLink RL 150 yX8_ask ∈ ALL := aw5 164 (by decide +kernel) rfl
theorem kv_X8_ask : Kv RX8 yX8_ask cX8_ask 8 (some .int) 2 := ⟨⟨aw5 165 (by decide +kernel) rfl, aw5 166 (by decide +kernel) rfl, aw1 9 (by decide +kernel) rfl, aw5 167 (by decide +kernel) rfl⟩, by decide +kernel⟩
theorem kl_66 : Cond.methodLink RL 151 yX7_drift ∈ ALL := aw3 229 (by decide +kernel) rfl
theorem kv_X7_drift : Kv RX7 yX7_drift cX7_drift 7 (some .int) 3 := ⟨⟨aw3 230 (by decide +kernel) rfl, aw3 231 (by decide +kernel) rfl, aw1 1 (by decide +kernel) rfl, aw3 232 (by decide +kernel) rfl⟩, by decide +kernel⟩
theorem kl_67 : Cond.methodLink RL 154 yX8_drift ∈ ALL := aw5 172 (by decide +kernel) rfl
theorem kv_X8_drift : Kv RX8 yX8_drift cX8_drift 7 (some .int) 3 := ⟨⟨aw5 173 (by decide +kernel) rfl, aw5 174 (by decide +kernel) rfl, aw1 9 (by decide +kernel) rfl, aw5 175 (by decide +kernel) rfl⟩, by decide +kernel⟩
theorem kl_68 : Cond.methodLink RL 155 yX7_keep ∈ ALL := aw3 234 (by decide +kernel) rfl
theorem kv_X7_keep : Kv RX7 yX7_keep cX7_keep 3 (some .int) 1 := ⟨⟨aw3 235 (by decide +kernel) rfl, aw3 236 (by decide +kernel) rfl, aw1 1 (by decide +kernel) rfl, aw3 237 (by decide +kernel) rfl⟩, by decide +kernel⟩
theorem kl_69 : Cond.methodLink RL 158 yX8_keep ∈ ALL := aw5 177 (by decide +kernel) rfl
theorem kv_X8_keep : Kv RX8 yX8_keep cX8_keep 3 (some .int) 1 := ⟨⟨aw5 178 (by decide +kernel) rfl, aw5 179 (by decide +kernel) rfl, aw1 9 (by decide +kernel) rfl, aw5 180 (by decide +kernel) rfl⟩, by decide +kernel⟩
theorem kl_70 : Cond.methodLink RL 159 yX7_back ∈ ALL := aw3 238 (by decide +kernel) rfl
theorem kv_X7_back : Kv RX7 yX7_back cX7_back 2 (some .int) 1 := ⟨⟨aw3 239 (by decide +kernel) rfl, aw4 0 (by decide +kernel) rfl, aw1 1 (by decide +kernel) rfl, aw4 1 (by decide +kernel) rfl⟩, by decide +kernel⟩
theorem kl_71 : Cond.methodLink RL 162 yX8_back ∈ ALL := aw5 181 (by decide +kernel) rfl
theorem kv_X8_back : Kv RX8 yX8_back cX8_back 2 (some .int) 1 := ⟨⟨aw5 182 (by decide +kernel) rfl, aw5 183 (by decide +kernel) rfl, aw1 9 (by decide +kernel) rfl, aw5 184 (by decide +kernel) rfl⟩, by decide +kernel⟩
theorem kl_72 : Cond.methodLink RL 163 yX7_sheet ∈ ALL := aw4 2 (by decide +kernel) rfl
theorem kv_X7_sheet : Kv RX7 yX7_sheet cX7_sheet 4 (some .int) 3 := ⟨⟨aw4 3 (by decide +kernel) rfl, aw4 4 (by decide +kernel) rfl, aw1 1 (by decide +kernel) rfl, aw4 5 (by decide +kernel) rfl⟩, by decide +kernel⟩
theorem kl_73 : Cond.methodLink RL 166 yX8_sheet ∈ ALL := aw5 185 (by decide +kernel) rfl
theorem kv_X8_sheet : Kv RX8 yX8_sheet cX8_sheet 5 (some .int) 3 := ⟨⟨aw5 186 (by decide +kernel) rfl, aw5 187 (by decide +kernel) rfl, aw1 9 (by decide +kernel) rfl, aw5 188 (by decide +kernel) rfl⟩, by decide +kernel⟩
theorem kl_74 : Cond.methodLink RL 167 yX7_lay ∈ ALL := aw4 13 (by decide +kernel) rfl
theorem kv_X7_lay : Kv RX7 yX7_lay cX7_lay 4 (some .int) 3 := ⟨⟨aw4 14 (by decide +kernel) rfl, aw4 15 (by decide +kernel) rfl, aw1 1 (by decide +kernel) rfl, aw4 16 (by decide +kernel) rfl⟩, by decide +kernel⟩
theorem kl_75 : Cond.methodLink RL 170 yX8_lay ∈ ALL := aw5 190 (by decide +kernel) rfl
theorem kv_X8_lay : Kv RX8 yX8_lay cX8_lay 4 (some .int) 3 := ⟨⟨aw5 191 (by decide +kernel) rfl, aw5 192 (by decide +kernel) rfl, aw1 9 (by decide +kernel) rfl, aw5 193 (by decide +kernel) rfl⟩, by decide +kernel⟩
theorem kl_76 : Cond.methodLink RL 171 yX7_read ∈ ALL := aw4 29 (by decide +kernel) rfl
theorem kv_X7_read : Kv RX7 yX7_read cX7_read 10 (some .int) 4 := ⟨⟨aw4 30 (by decide +kernel) rfl, aw4 31 (by decide +kernel) rfl, aw1 1 (by decide +kernel) rfl, aw4 32 (by decide +kernel) rfl⟩, by decide +kernel⟩
theorem kl_77 : Cond.methodLink RL 175 yX8_read ∈ ALL := aw5 194 (by decide +kernel) rfl
theorem kv_X8_read : Kv RX8 yX8_read cX8_read 9 (some .int) 4 := ⟨⟨aw5 195 (by decide +kernel) rfl, aw5 196 (by decide +kernel) rfl, aw1 9 (by decide +kernel) rfl, aw5 197 (by decide +kernel) rfl⟩, by decide +kernel⟩
theorem kl_78 : Cond.methodLink RL 176 yX7_torn ∈ ALL := aw4 43 (by decide +kernel) rfl
theorem kv_X7_torn : Kv RX7 yX7_torn cX7_torn 1 (some .int) 0 := ⟨⟨aw4 44 (by decide +kernel) rfl, aw4 45 (by decide +kernel) rfl, aw1 1 (by decide +kernel) rfl, aw4 46 (by decide +kernel) rfl⟩, by decide +kernel⟩
theorem kl_79 : Cond.methodLink RL 179 yX8_torn ∈ ALL := aw5 198 (by decide +kernel) rfl
theorem kv_X8_torn : Kv RX8 yX8_torn cX8_torn 1 (some .int) 0 := ⟨⟨aw5 199 (by decide +kernel) rfl, aw5 200 (by decide +kernel) rfl, aw1 9 (by decide +kernel) rfl, aw5 201 (by decide +kernel) rfl⟩, by decide +kernel⟩
theorem kl_80 : Cond.methodLink RL 180 yX7_count ∈ ALL := aw4 47 (by decide +kernel) rfl
theorem kv_X7_count : Kv RX7 yX7_count cX7_count 2 (some .int) 1 := ⟨⟨aw4 48 (by decide +kernel) rfl, aw4 49 (by decide +kernel) rfl, aw1 1 (by decide +kernel) rfl, aw4 50 (by decide +kernel) rfl⟩, by decide +kernel⟩
theorem kl_81 : Cond.methodLink RL 183 yX8_count ∈ ALL := aw5 202 (by decide +kernel) rfl
theorem kv_X8_count : Kv RX8 yX8_count cX8_count 5 (some .int) 1 := ⟨⟨aw5 203 (by decide +kernel) rfl, aw5 204 (by decide +kernel) rfl, aw1 9 (by decide +kernel) rfl, aw5 205 (by decide +kernel) rfl⟩, by decide +kernel⟩
section
variable {p : Program} {l : Launch} {e : Env} {s : State} {m : MethodId} {below : List Frame} {meth : Method} {c : Code} {b L : Nat} {xs : Nat → Int32} {gX gM : Gt} {Rel : Mem → Mem → Prop} {X M : Mem}
set_option maxHeartbeats 4000000 in
set_option maxRecDepth 100000 in
theorem law_0 {H : Heap} {locs : List Loc} {ls : Array Slot} {i : Nat} (hO : op_feed Rel) (C : LC p s m c b L xs gX gM) (hL : L ≤ 320) (hi : i + 5 ≤ L) (hn : ∀ (X M : Mem) (H : Heap) (locs : List Loc) (ls : Array Slot), Rel X M → LW s gX gM X M H locs → lv_has ls 4 [(0, .ref b), (1, .ref (ga gX 0)), (2, .ref (ga gM 0)), (3, .int (nI i))] → W p l e room_1 s m #[Value.ref b] below meth c H locs 600000 7302250 (lw_Z below #[Value.ref b] s) (F0 m 1577 ls [])) (hR : Rel X M) (w : LW s gX gM X M H locs) (hl : lv_has ls 4 [(0, .ref b), (1, .ref (ga gX 0)), (2, .ref (ga gM 0)), (3, .int (nI i))]) : W p l e room_1 s m #[Value.ref b] below meth c H locs 600000 7302250 (lw_Z below #[Value.ref b] s) (F0 m 212 ls []) := by
  have h := hO X M (xs (nI i + 1).toNatClampNeg) hR
  refine lv_aload_n C.1.1.1 C.1.1.2.1 dL_law_212 rfl (lv_at hl 1 rfl) ?_
  refine lv_aload_n C.1.1.1 C.1.1.2.1 dL_law_213 rfl (lv_at hl 0 rfl) ?_
  refine lv_iload_n C.1.1.1 C.1.1.2.1 dL_law_214 rfl (lv_at hl 3 rfl) ?_
  refine lv_iconst (v := 1) C.1.1.1 C.1.1.2.1 dL_law_215 (by decide) ?_
  refine lv_iadd C.1.1.1 C.1.1.2.1 dL_law_216 ?_
  refine va_sld C.1.1.1 C.1.1.2.1 C.2.2.1 C.2.2.2.1 (Nat.not_le.mpr C.2.2.2.1) w.2.2.2.2 (lin hL hi 1 (by decide)) dL_law_217 ?_
  refine y_calli C.1 w.1 w.2.1 w.2.2.2.2 C.2.2.2.2.1 [.int (xs (nI i + 1).toNatClampNeg)] (c_X7_feed h) kv_X7_feed kl_0 (va_recv C.1.2.1 w.1 kc_X7.2.1 (wsX0 gX X)) rfl hl.1 (Nat.le_of_ble_eq_true rfl) ⟨Nat.le_of_ble_eq_true rfl, Nat.le_of_ble_eq_true rfl⟩ ⟨Nat.le_refl _, Nat.le_refl _⟩ dL_law_218 (fun r X1 H1 locs1 h hP1 hD1 hk1 hS1 => ?_)
  have w := LW.stepX C w hP1 hD1 hk1 hS1
  generalize H1 = H, locs1 = locs at w ⊢
  refine lv_aload_n C.1.1.1 C.1.1.2.1 dL_law_221 rfl (lv_at hl 2 rfl) ?_
  refine lv_aload_n C.1.1.1 C.1.1.2.1 dL_law_222 rfl (lv_at hl 0 rfl) ?_
  refine lv_iload_n C.1.1.1 C.1.1.2.1 dL_law_223 rfl (lv_at hl 3 rfl) ?_
  refine lv_iconst (v := 1) C.1.1.1 C.1.1.2.1 dL_law_224 (by decide) ?_
  refine lv_iadd C.1.1.1 C.1.1.2.1 dL_law_225 ?_
  refine va_sld C.1.1.1 C.1.1.2.1 C.2.2.1 C.2.2.2.1 (Nat.not_le.mpr C.2.2.2.1) w.2.2.2.2 (lin hL hi 1 (by decide)) dL_law_226 ?_
  refine y_calli C.2.1 w.2.2.1 w.2.2.2.1 w.2.2.2.2 C.2.2.2.2.2.1 [.int (xs (nI i + 1).toNatClampNeg)] (c_X8_feed h) kv_X8_feed kl_1 (va_recv C.2.1.2.1 w.2.2.1 kc_X8.2.1 (wsM0 gM M)) rfl hl.1 (Nat.le_of_ble_eq_true rfl) ⟨Nat.le_of_ble_eq_true rfl, Nat.le_of_ble_eq_true rfl⟩ ⟨Nat.le_refl _, Nat.le_refl _⟩ dL_law_227 (fun r1 M1 H1 locs1 h hP1 hD1 hk1 hS1 => ?_)
  obtain ⟨e2, hrel⟩ := h
  have w := LW.stepM C w hP1 hD1 hk1 hS1
  generalize H1 = H, locs1 = locs at w ⊢
  refine lv_icmp_eq (tgt := 1577) C.1.1.1 C.1.1.2.1 dL_law_230 (by decide) (fun _ => ?_) (fun hc => absurd e2 hc)
  exact hn _ _ _ _ _ hrel w hl
set_option maxHeartbeats 4000000 in
set_option maxRecDepth 100000 in
theorem law_1 {H : Heap} {locs : List Loc} {ls : Array Slot} {i : Nat} (hO : op_end Rel) (C : LC p s m c b L xs gX gM) (hL : L ≤ 320) (hi : i + 5 ≤ L) (hn : ∀ (X M : Mem) (H : Heap) (locs : List Loc) (ls : Array Slot), Rel X M → LW s gX gM X M H locs → lv_has ls 4 [(0, .ref b), (1, .ref (ga gX 0)), (2, .ref (ga gM 0)), (3, .int (nI i))] → W p l e room_1 s m #[Value.ref b] below meth c H locs 600000 7302250 (lw_Z below #[Value.ref b] s) (F0 m 1577 ls [])) (hR : Rel X M) (w : LW s gX gM X M H locs) (hl : lv_has ls 4 [(0, .ref b), (1, .ref (ga gX 0)), (2, .ref (ga gM 0)), (3, .int (nI i))]) : W p l e room_1 s m #[Value.ref b] below meth c H locs 600000 7302250 (lw_Z below #[Value.ref b] s) (F0 m 235 ls []) := by
  have h := hO X M (xs (nI i + 1).toNatClampNeg) hR
  refine lv_aload_n C.1.1.1 C.1.1.2.1 dL_law_235 rfl (lv_at hl 1 rfl) ?_
  refine lv_aload_n C.1.1.1 C.1.1.2.1 dL_law_236 rfl (lv_at hl 0 rfl) ?_
  refine lv_iload_n C.1.1.1 C.1.1.2.1 dL_law_237 rfl (lv_at hl 3 rfl) ?_
  refine lv_iconst (v := 1) C.1.1.1 C.1.1.2.1 dL_law_238 (by decide) ?_
  refine lv_iadd C.1.1.1 C.1.1.2.1 dL_law_239 ?_
  refine va_sld C.1.1.1 C.1.1.2.1 C.2.2.1 C.2.2.2.1 (Nat.not_le.mpr C.2.2.2.1) w.2.2.2.2 (lin hL hi 1 (by decide)) dL_law_240 ?_
  refine y_calli C.1 w.1 w.2.1 w.2.2.2.2 C.2.2.2.2.1 [.int (xs (nI i + 1).toNatClampNeg)] (c_X7_end h) kv_X7_end kl_2 (va_recv C.1.2.1 w.1 kc_X7.2.1 (wsX0 gX X)) rfl hl.1 (Nat.le_of_ble_eq_true rfl) ⟨Nat.le_of_ble_eq_true rfl, Nat.le_of_ble_eq_true rfl⟩ ⟨Nat.le_refl _, Nat.le_refl _⟩ dL_law_241 (fun r X1 H1 locs1 h hP1 hD1 hk1 hS1 => ?_)
  have w := LW.stepX C w hP1 hD1 hk1 hS1
  generalize H1 = H, locs1 = locs at w ⊢
  refine lv_aload_n C.1.1.1 C.1.1.2.1 dL_law_244 rfl (lv_at hl 2 rfl) ?_
  refine lv_aload_n C.1.1.1 C.1.1.2.1 dL_law_245 rfl (lv_at hl 0 rfl) ?_
  refine lv_iload_n C.1.1.1 C.1.1.2.1 dL_law_246 rfl (lv_at hl 3 rfl) ?_
  refine lv_iconst (v := 1) C.1.1.1 C.1.1.2.1 dL_law_247 (by decide) ?_
  refine lv_iadd C.1.1.1 C.1.1.2.1 dL_law_248 ?_
  refine va_sld C.1.1.1 C.1.1.2.1 C.2.2.1 C.2.2.2.1 (Nat.not_le.mpr C.2.2.2.1) w.2.2.2.2 (lin hL hi 1 (by decide)) dL_law_249 ?_
  refine y_calli C.2.1 w.2.2.1 w.2.2.2.1 w.2.2.2.2 C.2.2.2.2.2.1 [.int (xs (nI i + 1).toNatClampNeg)] (c_X8_end h) kv_X8_end kl_3 (va_recv C.2.1.2.1 w.2.2.1 kc_X8.2.1 (wsM0 gM M)) rfl hl.1 (Nat.le_of_ble_eq_true rfl) ⟨Nat.le_of_ble_eq_true rfl, Nat.le_of_ble_eq_true rfl⟩ ⟨Nat.le_refl _, Nat.le_refl _⟩ dL_law_250 (fun r1 M1 H1 locs1 h hP1 hD1 hk1 hS1 => ?_)
  obtain ⟨e2, hrel⟩ := h
  have w := LW.stepM C w hP1 hD1 hk1 hS1
  generalize H1 = H, locs1 = locs at w ⊢
  refine lv_icmp_eq (tgt := 1577) C.1.1.1 C.1.1.2.1 dL_law_253 (by decide) (fun _ => ?_) (fun hc => absurd e2 hc)
  exact hn _ _ _ _ _ hrel w hl
set_option maxHeartbeats 4000000 in
set_option maxRecDepth 100000 in
theorem law_2 {H : Heap} {locs : List Loc} {ls : Array Slot} {i : Nat} (hO : op_text Rel) (C : LC p s m c b L xs gX gM) (hL : L ≤ 320) (hi : i + 5 ≤ L) (hn : ∀ (X M : Mem) (H : Heap) (locs : List Loc) (ls : Array Slot), Rel X M → LW s gX gM X M H locs → lv_has ls 4 [(0, .ref b), (1, .ref (ga gX 0)), (2, .ref (ga gM 0)), (3, .int (nI i))] → W p l e room_1 s m #[Value.ref b] below meth c H locs 600000 7302250 (lw_Z below #[Value.ref b] s) (F0 m 1577 ls [])) (hR : Rel X M) (w : LW s gX gM X M H locs) (hl : lv_has ls 4 [(0, .ref b), (1, .ref (ga gX 0)), (2, .ref (ga gM 0)), (3, .int (nI i))]) : W p l e room_1 s m #[Value.ref b] below meth c H locs 600000 7302250 (lw_Z below #[Value.ref b] s) (F0 m 258 ls []) := by
  have h := hO X M  hR
  refine lv_aload_n C.1.1.1 C.1.1.2.1 dL_law_258 rfl (lv_at hl 1 rfl) ?_
  refine y_calli C.1 w.1 w.2.1 w.2.2.2.2 C.2.2.2.2.1 [] (c_X7_text h) kv_X7_text kl_4 (va_recv C.1.2.1 w.1 kc_X7.2.1 (wsX0 gX X)) rfl hl.1 (Nat.le_of_ble_eq_true rfl) ⟨Nat.le_of_ble_eq_true rfl, Nat.le_of_ble_eq_true rfl⟩ ⟨Nat.le_refl _, Nat.le_refl _⟩ dL_law_259 (fun r X1 H1 locs1 h hP1 hD1 hk1 hS1 => ?_)
  have w := LW.stepX C w hP1 hD1 hk1 hS1
  generalize H1 = H, locs1 = locs at w ⊢
  refine lv_aload_n C.1.1.1 C.1.1.2.1 dL_law_262 rfl (lv_at hl 2 rfl) ?_
  refine y_calli C.2.1 w.2.2.1 w.2.2.2.1 w.2.2.2.2 C.2.2.2.2.2.1 [] (c_X8_text h) kv_X8_text kl_5 (va_recv C.2.1.2.1 w.2.2.1 kc_X8.2.1 (wsM0 gM M)) rfl hl.1 (Nat.le_of_ble_eq_true rfl) ⟨Nat.le_of_ble_eq_true rfl, Nat.le_of_ble_eq_true rfl⟩ ⟨Nat.le_refl _, Nat.le_refl _⟩ dL_law_263 (fun r1 M1 H1 locs1 h hP1 hD1 hk1 hS1 => ?_)
  obtain ⟨e2, hrel⟩ := h
  have w := LW.stepM C w hP1 hD1 hk1 hS1
  generalize H1 = H, locs1 = locs at w ⊢
  refine lv_icmp_eq (tgt := 1577) C.1.1.1 C.1.1.2.1 dL_law_266 (by decide) (fun _ => ?_) (fun hc => absurd e2 hc)
  exact hn _ _ _ _ _ hrel w hl
set_option maxHeartbeats 4000000 in
set_option maxRecDepth 100000 in
theorem law_3 {H : Heap} {locs : List Loc} {ls : Array Slot} {i : Nat} (hO : op_fault Rel) (C : LC p s m c b L xs gX gM) (hL : L ≤ 320) (hi : i + 5 ≤ L) (hn : ∀ (X M : Mem) (H : Heap) (locs : List Loc) (ls : Array Slot), Rel X M → LW s gX gM X M H locs → lv_has ls 4 [(0, .ref b), (1, .ref (ga gX 0)), (2, .ref (ga gM 0)), (3, .int (nI i))] → W p l e room_1 s m #[Value.ref b] below meth c H locs 600000 7302250 (lw_Z below #[Value.ref b] s) (F0 m 1577 ls [])) (hR : Rel X M) (w : LW s gX gM X M H locs) (hl : lv_has ls 4 [(0, .ref b), (1, .ref (ga gX 0)), (2, .ref (ga gM 0)), (3, .int (nI i))]) : W p l e room_1 s m #[Value.ref b] below meth c H locs 600000 7302250 (lw_Z below #[Value.ref b] s) (F0 m 271 ls []) := by
  have h := hO X M  hR
  refine lv_aload_n C.1.1.1 C.1.1.2.1 dL_law_271 rfl (lv_at hl 1 rfl) ?_
  refine y_calli C.1 w.1 w.2.1 w.2.2.2.2 C.2.2.2.2.1 [] (c_X7_fault h) kv_X7_fault kl_6 (va_recv C.1.2.1 w.1 kc_X7.2.1 (wsX0 gX X)) rfl hl.1 (Nat.le_of_ble_eq_true rfl) ⟨Nat.le_of_ble_eq_true rfl, Nat.le_of_ble_eq_true rfl⟩ ⟨Nat.le_refl _, Nat.le_refl _⟩ dL_law_272 (fun r X1 H1 locs1 h hP1 hD1 hk1 hS1 => ?_)
  obtain ⟨e1, h⟩ := h
  rw [e1] at hP1 hD1
  have w := LW.stepX (X1 := X) C w hP1 hD1 hk1 hS1
  generalize H1 = H, locs1 = locs at w ⊢
  refine lv_aload_n C.1.1.1 C.1.1.2.1 dL_law_275 rfl (lv_at hl 2 rfl) ?_
  refine y_calli C.2.1 w.2.2.1 w.2.2.2.1 w.2.2.2.2 C.2.2.2.2.2.1 [] (c_X8_fault h) kv_X8_fault kl_7 (va_recv C.2.1.2.1 w.2.2.1 kc_X8.2.1 (wsM0 gM M)) rfl hl.1 (Nat.le_of_ble_eq_true rfl) ⟨Nat.le_of_ble_eq_true rfl, Nat.le_of_ble_eq_true rfl⟩ ⟨Nat.le_refl _, Nat.le_refl _⟩ dL_law_276 (fun r1 M1 H1 locs1 h hP1 hD1 hk1 hS1 => ?_)
  obtain ⟨e1, e2⟩ := h
  rw [e1] at hP1 hD1
  have w := LW.stepM (M1 := M) C w hP1 hD1 hk1 hS1
  have hrel := hR
  generalize H1 = H, locs1 = locs at w ⊢
  refine lv_icmp_eq (tgt := 1577) C.1.1.1 C.1.1.2.1 dL_law_279 (by decide) (fun _ => ?_) (fun hc => absurd e2 hc)
  exact hn _ _ _ _ _ hrel w hl
set_option maxHeartbeats 4000000 in
set_option maxRecDepth 100000 in
theorem law_4 {H : Heap} {locs : List Loc} {ls : Array Slot} {i : Nat} (hO : op_rule Rel) (C : LC p s m c b L xs gX gM) (hL : L ≤ 320) (hi : i + 5 ≤ L) (hn : ∀ (X M : Mem) (H : Heap) (locs : List Loc) (ls : Array Slot), Rel X M → LW s gX gM X M H locs → lv_has ls 4 [(0, .ref b), (1, .ref (ga gX 0)), (2, .ref (ga gM 0)), (3, .int (nI i))] → W p l e room_1 s m #[Value.ref b] below meth c H locs 600000 7302250 (lw_Z below #[Value.ref b] s) (F0 m 1577 ls [])) (hR : Rel X M) (w : LW s gX gM X M H locs) (hl : lv_has ls 4 [(0, .ref b), (1, .ref (ga gX 0)), (2, .ref (ga gM 0)), (3, .int (nI i))]) : W p l e room_1 s m #[Value.ref b] below meth c H locs 600000 7302250 (lw_Z below #[Value.ref b] s) (F0 m 284 ls []) := by
  have h := hO X M (xs (nI i + 1).toNatClampNeg) hR
  refine lv_aload_n C.1.1.1 C.1.1.2.1 dL_law_284 rfl (lv_at hl 1 rfl) ?_
  refine lv_aload_n C.1.1.1 C.1.1.2.1 dL_law_285 rfl (lv_at hl 0 rfl) ?_
  refine lv_iload_n C.1.1.1 C.1.1.2.1 dL_law_286 rfl (lv_at hl 3 rfl) ?_
  refine lv_iconst (v := 1) C.1.1.1 C.1.1.2.1 dL_law_287 (by decide) ?_
  refine lv_iadd C.1.1.1 C.1.1.2.1 dL_law_288 ?_
  refine va_sld C.1.1.1 C.1.1.2.1 C.2.2.1 C.2.2.2.1 (Nat.not_le.mpr C.2.2.2.1) w.2.2.2.2 (lin hL hi 1 (by decide)) dL_law_289 ?_
  refine y_calli C.1 w.1 w.2.1 w.2.2.2.2 C.2.2.2.2.1 [.int (xs (nI i + 1).toNatClampNeg)] (c_X7_rule h) kv_X7_rule kl_8 (va_recv C.1.2.1 w.1 kc_X7.2.1 (wsX0 gX X)) rfl hl.1 (Nat.le_of_ble_eq_true rfl) ⟨Nat.le_of_ble_eq_true rfl, Nat.le_of_ble_eq_true rfl⟩ ⟨Nat.le_refl _, Nat.le_refl _⟩ dL_law_290 (fun r X1 H1 locs1 h hP1 hD1 hk1 hS1 => ?_)
  obtain ⟨e1, h⟩ := h
  rw [e1] at hP1 hD1
  have w := LW.stepX (X1 := X) C w hP1 hD1 hk1 hS1
  generalize H1 = H, locs1 = locs at w ⊢
  refine lv_aload_n C.1.1.1 C.1.1.2.1 dL_law_293 rfl (lv_at hl 2 rfl) ?_
  refine lv_aload_n C.1.1.1 C.1.1.2.1 dL_law_294 rfl (lv_at hl 0 rfl) ?_
  refine lv_iload_n C.1.1.1 C.1.1.2.1 dL_law_295 rfl (lv_at hl 3 rfl) ?_
  refine lv_iconst (v := 1) C.1.1.1 C.1.1.2.1 dL_law_296 (by decide) ?_
  refine lv_iadd C.1.1.1 C.1.1.2.1 dL_law_297 ?_
  refine va_sld C.1.1.1 C.1.1.2.1 C.2.2.1 C.2.2.2.1 (Nat.not_le.mpr C.2.2.2.1) w.2.2.2.2 (lin hL hi 1 (by decide)) dL_law_298 ?_
  refine y_calli C.2.1 w.2.2.1 w.2.2.2.1 w.2.2.2.2 C.2.2.2.2.2.1 [.int (xs (nI i + 1).toNatClampNeg)] (c_X8_rule h) kv_X8_rule kl_9 (va_recv C.2.1.2.1 w.2.2.1 kc_X8.2.1 (wsM0 gM M)) rfl hl.1 (Nat.le_of_ble_eq_true rfl) ⟨Nat.le_of_ble_eq_true rfl, Nat.le_of_ble_eq_true rfl⟩ ⟨Nat.le_refl _, Nat.le_refl _⟩ dL_law_299 (fun r1 M1 H1 locs1 h hP1 hD1 hk1 hS1 => ?_)
  obtain ⟨e1, e2⟩ := h
  rw [e1] at hP1 hD1
  have w := LW.stepM (M1 := M) C w hP1 hD1 hk1 hS1
  have hrel := hR
  generalize H1 = H, locs1 = locs at w ⊢
  refine lv_icmp_eq (tgt := 1577) C.1.1.1 C.1.1.2.1 dL_law_302 (by decide) (fun _ => ?_) (fun hc => absurd e2 hc)
  exact hn _ _ _ _ _ hrel w hl
set_option maxHeartbeats 4000000 in
set_option maxRecDepth 100000 in
theorem law_5 {H : Heap} {locs : List Loc} {ls : Array Slot} {i : Nat} (hO : op_gate Rel) (C : LC p s m c b L xs gX gM) (hL : L ≤ 320) (hi : i + 5 ≤ L) (hn : ∀ (X M : Mem) (H : Heap) (locs : List Loc) (ls : Array Slot), Rel X M → LW s gX gM X M H locs → lv_has ls 4 [(0, .ref b), (1, .ref (ga gX 0)), (2, .ref (ga gM 0)), (3, .int (nI i))] → W p l e room_1 s m #[Value.ref b] below meth c H locs 600000 7302250 (lw_Z below #[Value.ref b] s) (F0 m 1577 ls [])) (hR : Rel X M) (w : LW s gX gM X M H locs) (hl : lv_has ls 4 [(0, .ref b), (1, .ref (ga gX 0)), (2, .ref (ga gM 0)), (3, .int (nI i))]) : W p l e room_1 s m #[Value.ref b] below meth c H locs 600000 7302250 (lw_Z below #[Value.ref b] s) (F0 m 307 ls []) := by
  have h := hO X M (xs (nI i + 1).toNatClampNeg) (xs (nI i + 2).toNatClampNeg) hR
  refine lv_aload_n C.1.1.1 C.1.1.2.1 dL_law_307 rfl (lv_at hl 1 rfl) ?_
  refine lv_aload_n C.1.1.1 C.1.1.2.1 dL_law_308 rfl (lv_at hl 0 rfl) ?_
  refine lv_iload_n C.1.1.1 C.1.1.2.1 dL_law_309 rfl (lv_at hl 3 rfl) ?_
  refine lv_iconst (v := 1) C.1.1.1 C.1.1.2.1 dL_law_310 (by decide) ?_
  refine lv_iadd C.1.1.1 C.1.1.2.1 dL_law_311 ?_
  refine va_sld C.1.1.1 C.1.1.2.1 C.2.2.1 C.2.2.2.1 (Nat.not_le.mpr C.2.2.2.1) w.2.2.2.2 (lin hL hi 1 (by decide)) dL_law_312 ?_
  refine lv_aload_n C.1.1.1 C.1.1.2.1 dL_law_313 rfl (lv_at hl 0 rfl) ?_
  refine lv_iload_n C.1.1.1 C.1.1.2.1 dL_law_314 rfl (lv_at hl 3 rfl) ?_
  refine lv_iconst (v := 2) C.1.1.1 C.1.1.2.1 dL_law_315 (by decide) ?_
  refine lv_iadd C.1.1.1 C.1.1.2.1 dL_law_316 ?_
  refine va_sld C.1.1.1 C.1.1.2.1 C.2.2.1 C.2.2.2.1 (Nat.not_le.mpr C.2.2.2.1) w.2.2.2.2 (lin hL hi 2 (by decide)) dL_law_317 ?_
  refine y_calli C.1 w.1 w.2.1 w.2.2.2.2 C.2.2.2.2.1 [.int (xs (nI i + 1).toNatClampNeg), .int (xs (nI i + 2).toNatClampNeg)] (c_X7_gate h) kv_X7_gate kl_10 (va_recv C.1.2.1 w.1 kc_X7.2.1 (wsX0 gX X)) rfl hl.1 (Nat.le_of_ble_eq_true rfl) ⟨Nat.le_of_ble_eq_true rfl, Nat.le_of_ble_eq_true rfl⟩ ⟨Nat.le_refl _, Nat.le_refl _⟩ dL_law_318 (fun r X1 H1 locs1 h hP1 hD1 hk1 hS1 => ?_)
  obtain ⟨e1, h⟩ := h
  rw [e1] at hP1 hD1
  have w := LW.stepX (X1 := X) C w hP1 hD1 hk1 hS1
  generalize H1 = H, locs1 = locs at w ⊢
  refine lv_aload_n C.1.1.1 C.1.1.2.1 dL_law_321 rfl (lv_at hl 2 rfl) ?_
  refine lv_aload_n C.1.1.1 C.1.1.2.1 dL_law_322 rfl (lv_at hl 0 rfl) ?_
  refine lv_iload_n C.1.1.1 C.1.1.2.1 dL_law_323 rfl (lv_at hl 3 rfl) ?_
  refine lv_iconst (v := 1) C.1.1.1 C.1.1.2.1 dL_law_324 (by decide) ?_
  refine lv_iadd C.1.1.1 C.1.1.2.1 dL_law_325 ?_
  refine va_sld C.1.1.1 C.1.1.2.1 C.2.2.1 C.2.2.2.1 (Nat.not_le.mpr C.2.2.2.1) w.2.2.2.2 (lin hL hi 1 (by decide)) dL_law_326 ?_
  refine lv_aload_n C.1.1.1 C.1.1.2.1 dL_law_327 rfl (lv_at hl 0 rfl) ?_
  refine lv_iload_n C.1.1.1 C.1.1.2.1 dL_law_328 rfl (lv_at hl 3 rfl) ?_
  refine lv_iconst (v := 2) C.1.1.1 C.1.1.2.1 dL_law_329 (by decide) ?_
  refine lv_iadd C.1.1.1 C.1.1.2.1 dL_law_330 ?_
  refine va_sld C.1.1.1 C.1.1.2.1 C.2.2.1 C.2.2.2.1 (Nat.not_le.mpr C.2.2.2.1) w.2.2.2.2 (lin hL hi 2 (by decide)) dL_law_331 ?_
  refine y_calli C.2.1 w.2.2.1 w.2.2.2.1 w.2.2.2.2 C.2.2.2.2.2.1 [.int (xs (nI i + 1).toNatClampNeg), .int (xs (nI i + 2).toNatClampNeg)] (c_X8_gate h) kv_X8_gate kl_11 (va_recv C.2.1.2.1 w.2.2.1 kc_X8.2.1 (wsM0 gM M)) rfl hl.1 (Nat.le_of_ble_eq_true rfl) ⟨Nat.le_of_ble_eq_true rfl, Nat.le_of_ble_eq_true rfl⟩ ⟨Nat.le_refl _, Nat.le_refl _⟩ dL_law_332 (fun r1 M1 H1 locs1 h hP1 hD1 hk1 hS1 => ?_)
  obtain ⟨e1, e2⟩ := h
  rw [e1] at hP1 hD1
  have w := LW.stepM (M1 := M) C w hP1 hD1 hk1 hS1
  have hrel := hR
  generalize H1 = H, locs1 = locs at w ⊢
  refine lv_icmp_eq (tgt := 1577) C.1.1.1 C.1.1.2.1 dL_law_335 (by decide) (fun _ => ?_) (fun hc => absurd e2 hc)
  exact hn _ _ _ _ _ hrel w hl
set_option maxHeartbeats 4000000 in
set_option maxRecDepth 100000 in
theorem law_6 {H : Heap} {locs : List Loc} {ls : Array Slot} {i : Nat} (hO : op_taker Rel) (C : LC p s m c b L xs gX gM) (hL : L ≤ 320) (hi : i + 5 ≤ L) (hn : ∀ (X M : Mem) (H : Heap) (locs : List Loc) (ls : Array Slot), Rel X M → LW s gX gM X M H locs → lv_has ls 4 [(0, .ref b), (1, .ref (ga gX 0)), (2, .ref (ga gM 0)), (3, .int (nI i))] → W p l e room_1 s m #[Value.ref b] below meth c H locs 600000 7302250 (lw_Z below #[Value.ref b] s) (F0 m 1577 ls [])) (hR : Rel X M) (w : LW s gX gM X M H locs) (hl : lv_has ls 4 [(0, .ref b), (1, .ref (ga gX 0)), (2, .ref (ga gM 0)), (3, .int (nI i))]) : W p l e room_1 s m #[Value.ref b] below meth c H locs 600000 7302250 (lw_Z below #[Value.ref b] s) (F0 m 340 ls []) := by
  have h := hO X M (xs (nI i + 1).toNatClampNeg) (xs (nI i + 2).toNatClampNeg) hR
  refine lv_aload_n C.1.1.1 C.1.1.2.1 dL_law_340 rfl (lv_at hl 1 rfl) ?_
  refine lv_aload_n C.1.1.1 C.1.1.2.1 dL_law_341 rfl (lv_at hl 0 rfl) ?_
  refine lv_iload_n C.1.1.1 C.1.1.2.1 dL_law_342 rfl (lv_at hl 3 rfl) ?_
  refine lv_iconst (v := 1) C.1.1.1 C.1.1.2.1 dL_law_343 (by decide) ?_
  refine lv_iadd C.1.1.1 C.1.1.2.1 dL_law_344 ?_
  refine va_sld C.1.1.1 C.1.1.2.1 C.2.2.1 C.2.2.2.1 (Nat.not_le.mpr C.2.2.2.1) w.2.2.2.2 (lin hL hi 1 (by decide)) dL_law_345 ?_
  refine lv_aload_n C.1.1.1 C.1.1.2.1 dL_law_346 rfl (lv_at hl 0 rfl) ?_
  refine lv_iload_n C.1.1.1 C.1.1.2.1 dL_law_347 rfl (lv_at hl 3 rfl) ?_
  refine lv_iconst (v := 2) C.1.1.1 C.1.1.2.1 dL_law_348 (by decide) ?_
  refine lv_iadd C.1.1.1 C.1.1.2.1 dL_law_349 ?_
  refine va_sld C.1.1.1 C.1.1.2.1 C.2.2.1 C.2.2.2.1 (Nat.not_le.mpr C.2.2.2.1) w.2.2.2.2 (lin hL hi 2 (by decide)) dL_law_350 ?_
  refine y_calli C.1 w.1 w.2.1 w.2.2.2.2 C.2.2.2.2.1 [.int (xs (nI i + 1).toNatClampNeg), .int (xs (nI i + 2).toNatClampNeg)] (c_X7_taker h) kv_X7_taker kl_12 (va_recv C.1.2.1 w.1 kc_X7.2.1 (wsX0 gX X)) rfl hl.1 (Nat.le_of_ble_eq_true rfl) ⟨Nat.le_of_ble_eq_true rfl, Nat.le_of_ble_eq_true rfl⟩ ⟨Nat.le_refl _, Nat.le_refl _⟩ dL_law_351 (fun r X1 H1 locs1 h hP1 hD1 hk1 hS1 => ?_)
  obtain ⟨e1, h⟩ := h
  rw [e1] at hP1 hD1
  have w := LW.stepX (X1 := X) C w hP1 hD1 hk1 hS1
  generalize H1 = H, locs1 = locs at w ⊢
  refine lv_aload_n C.1.1.1 C.1.1.2.1 dL_law_354 rfl (lv_at hl 2 rfl) ?_
  refine lv_aload_n C.1.1.1 C.1.1.2.1 dL_law_355 rfl (lv_at hl 0 rfl) ?_
  refine lv_iload_n C.1.1.1 C.1.1.2.1 dL_law_356 rfl (lv_at hl 3 rfl) ?_
  refine lv_iconst (v := 1) C.1.1.1 C.1.1.2.1 dL_law_357 (by decide) ?_
  refine lv_iadd C.1.1.1 C.1.1.2.1 dL_law_358 ?_
  refine va_sld C.1.1.1 C.1.1.2.1 C.2.2.1 C.2.2.2.1 (Nat.not_le.mpr C.2.2.2.1) w.2.2.2.2 (lin hL hi 1 (by decide)) dL_law_359 ?_
  refine lv_aload_n C.1.1.1 C.1.1.2.1 dL_law_360 rfl (lv_at hl 0 rfl) ?_
  refine lv_iload_n C.1.1.1 C.1.1.2.1 dL_law_361 rfl (lv_at hl 3 rfl) ?_
  refine lv_iconst (v := 2) C.1.1.1 C.1.1.2.1 dL_law_362 (by decide) ?_
  refine lv_iadd C.1.1.1 C.1.1.2.1 dL_law_363 ?_
  refine va_sld C.1.1.1 C.1.1.2.1 C.2.2.1 C.2.2.2.1 (Nat.not_le.mpr C.2.2.2.1) w.2.2.2.2 (lin hL hi 2 (by decide)) dL_law_364 ?_
  refine y_calli C.2.1 w.2.2.1 w.2.2.2.1 w.2.2.2.2 C.2.2.2.2.2.1 [.int (xs (nI i + 1).toNatClampNeg), .int (xs (nI i + 2).toNatClampNeg)] (c_X8_taker h) kv_X8_taker kl_13 (va_recv C.2.1.2.1 w.2.2.1 kc_X8.2.1 (wsM0 gM M)) rfl hl.1 (Nat.le_of_ble_eq_true rfl) ⟨Nat.le_of_ble_eq_true rfl, Nat.le_of_ble_eq_true rfl⟩ ⟨Nat.le_refl _, Nat.le_refl _⟩ dL_law_365 (fun r1 M1 H1 locs1 h hP1 hD1 hk1 hS1 => ?_)
  obtain ⟨e1, e2⟩ := h
  rw [e1] at hP1 hD1
  have w := LW.stepM (M1 := M) C w hP1 hD1 hk1 hS1
  have hrel := hR
  generalize H1 = H, locs1 = locs at w ⊢
  refine lv_icmp_eq (tgt := 1577) C.1.1.1 C.1.1.2.1 dL_law_368 (by decide) (fun _ => ?_) (fun hc => absurd e2 hc)
  exact hn _ _ _ _ _ hrel w hl
set_option maxHeartbeats 4000000 in
set_option maxRecDepth 100000 in
theorem law_7 {H : Heap} {locs : List Loc} {ls : Array Slot} {i : Nat} (hO : op_keeper Rel) (C : LC p s m c b L xs gX gM) (hL : L ≤ 320) (hi : i + 5 ≤ L) (hn : ∀ (X M : Mem) (H : Heap) (locs : List Loc) (ls : Array Slot), Rel X M → LW s gX gM X M H locs → lv_has ls 4 [(0, .ref b), (1, .ref (ga gX 0)), (2, .ref (ga gM 0)), (3, .int (nI i))] → W p l e room_1 s m #[Value.ref b] below meth c H locs 600000 7302250 (lw_Z below #[Value.ref b] s) (F0 m 1577 ls [])) (hR : Rel X M) (w : LW s gX gM X M H locs) (hl : lv_has ls 4 [(0, .ref b), (1, .ref (ga gX 0)), (2, .ref (ga gM 0)), (3, .int (nI i))]) : W p l e room_1 s m #[Value.ref b] below meth c H locs 600000 7302250 (lw_Z below #[Value.ref b] s) (F0 m 373 ls []) := by
  have h := hO X M (xs (nI i + 1).toNatClampNeg) (xs (nI i + 2).toNatClampNeg) hR
  refine lv_aload_n C.1.1.1 C.1.1.2.1 dL_law_373 rfl (lv_at hl 1 rfl) ?_
  refine lv_aload_n C.1.1.1 C.1.1.2.1 dL_law_374 rfl (lv_at hl 0 rfl) ?_
  refine lv_iload_n C.1.1.1 C.1.1.2.1 dL_law_375 rfl (lv_at hl 3 rfl) ?_
  refine lv_iconst (v := 1) C.1.1.1 C.1.1.2.1 dL_law_376 (by decide) ?_
  refine lv_iadd C.1.1.1 C.1.1.2.1 dL_law_377 ?_
  refine va_sld C.1.1.1 C.1.1.2.1 C.2.2.1 C.2.2.2.1 (Nat.not_le.mpr C.2.2.2.1) w.2.2.2.2 (lin hL hi 1 (by decide)) dL_law_378 ?_
  refine lv_aload_n C.1.1.1 C.1.1.2.1 dL_law_379 rfl (lv_at hl 0 rfl) ?_
  refine lv_iload_n C.1.1.1 C.1.1.2.1 dL_law_380 rfl (lv_at hl 3 rfl) ?_
  refine lv_iconst (v := 2) C.1.1.1 C.1.1.2.1 dL_law_381 (by decide) ?_
  refine lv_iadd C.1.1.1 C.1.1.2.1 dL_law_382 ?_
  refine va_sld C.1.1.1 C.1.1.2.1 C.2.2.1 C.2.2.2.1 (Nat.not_le.mpr C.2.2.2.1) w.2.2.2.2 (lin hL hi 2 (by decide)) dL_law_383 ?_
  refine y_calli C.1 w.1 w.2.1 w.2.2.2.2 C.2.2.2.2.1 [.int (xs (nI i + 1).toNatClampNeg), .int (xs (nI i + 2).toNatClampNeg)] (c_X7_keeper h) kv_X7_keeper kl_14 (va_recv C.1.2.1 w.1 kc_X7.2.1 (wsX0 gX X)) rfl hl.1 (Nat.le_of_ble_eq_true rfl) ⟨Nat.le_of_ble_eq_true rfl, Nat.le_of_ble_eq_true rfl⟩ ⟨Nat.le_refl _, Nat.le_refl _⟩ dL_law_384 (fun r X1 H1 locs1 h hP1 hD1 hk1 hS1 => ?_)
  obtain ⟨e1, h⟩ := h
  rw [e1] at hP1 hD1
  have w := LW.stepX (X1 := X) C w hP1 hD1 hk1 hS1
  generalize H1 = H, locs1 = locs at w ⊢
  refine lv_aload_n C.1.1.1 C.1.1.2.1 dL_law_387 rfl (lv_at hl 2 rfl) ?_
  refine lv_aload_n C.1.1.1 C.1.1.2.1 dL_law_388 rfl (lv_at hl 0 rfl) ?_
  refine lv_iload_n C.1.1.1 C.1.1.2.1 dL_law_389 rfl (lv_at hl 3 rfl) ?_
  refine lv_iconst (v := 1) C.1.1.1 C.1.1.2.1 dL_law_390 (by decide) ?_
  refine lv_iadd C.1.1.1 C.1.1.2.1 dL_law_391 ?_
  refine va_sld C.1.1.1 C.1.1.2.1 C.2.2.1 C.2.2.2.1 (Nat.not_le.mpr C.2.2.2.1) w.2.2.2.2 (lin hL hi 1 (by decide)) dL_law_392 ?_
  refine lv_aload_n C.1.1.1 C.1.1.2.1 dL_law_393 rfl (lv_at hl 0 rfl) ?_
  refine lv_iload_n C.1.1.1 C.1.1.2.1 dL_law_394 rfl (lv_at hl 3 rfl) ?_
  refine lv_iconst (v := 2) C.1.1.1 C.1.1.2.1 dL_law_395 (by decide) ?_
  refine lv_iadd C.1.1.1 C.1.1.2.1 dL_law_396 ?_
  refine va_sld C.1.1.1 C.1.1.2.1 C.2.2.1 C.2.2.2.1 (Nat.not_le.mpr C.2.2.2.1) w.2.2.2.2 (lin hL hi 2 (by decide)) dL_law_397 ?_
  refine y_calli C.2.1 w.2.2.1 w.2.2.2.1 w.2.2.2.2 C.2.2.2.2.2.1 [.int (xs (nI i + 1).toNatClampNeg), .int (xs (nI i + 2).toNatClampNeg)] (c_X8_keeper h) kv_X8_keeper kl_15 (va_recv C.2.1.2.1 w.2.2.1 kc_X8.2.1 (wsM0 gM M)) rfl hl.1 (Nat.le_of_ble_eq_true rfl) ⟨Nat.le_of_ble_eq_true rfl, Nat.le_of_ble_eq_true rfl⟩ ⟨Nat.le_refl _, Nat.le_refl _⟩ dL_law_398 (fun r1 M1 H1 locs1 h hP1 hD1 hk1 hS1 => ?_)
  obtain ⟨e1, e2⟩ := h
  rw [e1] at hP1 hD1
  have w := LW.stepM (M1 := M) C w hP1 hD1 hk1 hS1
  have hrel := hR
  generalize H1 = H, locs1 = locs at w ⊢
  refine lv_icmp_eq (tgt := 1577) C.1.1.1 C.1.1.2.1 dL_law_401 (by decide) (fun _ => ?_) (fun hc => absurd e2 hc)
  exact hn _ _ _ _ _ hrel w hl
set_option maxHeartbeats 4000000 in
set_option maxRecDepth 100000 in
theorem law_8 {H : Heap} {locs : List Loc} {ls : Array Slot} {i : Nat} (hO : op_alter Rel) (C : LC p s m c b L xs gX gM) (hL : L ≤ 320) (hi : i + 5 ≤ L) (hn : ∀ (X M : Mem) (H : Heap) (locs : List Loc) (ls : Array Slot), Rel X M → LW s gX gM X M H locs → lv_has ls 4 [(0, .ref b), (1, .ref (ga gX 0)), (2, .ref (ga gM 0)), (3, .int (nI i))] → W p l e room_1 s m #[Value.ref b] below meth c H locs 600000 7302250 (lw_Z below #[Value.ref b] s) (F0 m 1577 ls [])) (hR : Rel X M) (w : LW s gX gM X M H locs) (hl : lv_has ls 4 [(0, .ref b), (1, .ref (ga gX 0)), (2, .ref (ga gM 0)), (3, .int (nI i))]) : W p l e room_1 s m #[Value.ref b] below meth c H locs 600000 7302250 (lw_Z below #[Value.ref b] s) (F0 m 406 ls []) := by
  have h := hO X M (xs (nI i + 1).toNatClampNeg) (xs (nI i + 2).toNatClampNeg) (xs (nI i + 3).toNatClampNeg) hR
  refine lv_aload_n C.1.1.1 C.1.1.2.1 dL_law_406 rfl (lv_at hl 1 rfl) ?_
  refine lv_aload_n C.1.1.1 C.1.1.2.1 dL_law_407 rfl (lv_at hl 0 rfl) ?_
  refine lv_iload_n C.1.1.1 C.1.1.2.1 dL_law_408 rfl (lv_at hl 3 rfl) ?_
  refine lv_iconst (v := 1) C.1.1.1 C.1.1.2.1 dL_law_409 (by decide) ?_
  refine lv_iadd C.1.1.1 C.1.1.2.1 dL_law_410 ?_
  refine va_sld C.1.1.1 C.1.1.2.1 C.2.2.1 C.2.2.2.1 (Nat.not_le.mpr C.2.2.2.1) w.2.2.2.2 (lin hL hi 1 (by decide)) dL_law_411 ?_
  refine lv_aload_n C.1.1.1 C.1.1.2.1 dL_law_412 rfl (lv_at hl 0 rfl) ?_
  refine lv_iload_n C.1.1.1 C.1.1.2.1 dL_law_413 rfl (lv_at hl 3 rfl) ?_
  refine lv_iconst (v := 2) C.1.1.1 C.1.1.2.1 dL_law_414 (by decide) ?_
  refine lv_iadd C.1.1.1 C.1.1.2.1 dL_law_415 ?_
  refine va_sld C.1.1.1 C.1.1.2.1 C.2.2.1 C.2.2.2.1 (Nat.not_le.mpr C.2.2.2.1) w.2.2.2.2 (lin hL hi 2 (by decide)) dL_law_416 ?_
  refine lv_aload_n C.1.1.1 C.1.1.2.1 dL_law_417 rfl (lv_at hl 0 rfl) ?_
  refine lv_iload_n C.1.1.1 C.1.1.2.1 dL_law_418 rfl (lv_at hl 3 rfl) ?_
  refine lv_iconst (v := 3) C.1.1.1 C.1.1.2.1 dL_law_419 (by decide) ?_
  refine lv_iadd C.1.1.1 C.1.1.2.1 dL_law_420 ?_
  refine va_sld C.1.1.1 C.1.1.2.1 C.2.2.1 C.2.2.2.1 (Nat.not_le.mpr C.2.2.2.1) w.2.2.2.2 (lin hL hi 3 (by decide)) dL_law_421 ?_
  refine y_calli C.1 w.1 w.2.1 w.2.2.2.2 C.2.2.2.2.1 [.int (xs (nI i + 1).toNatClampNeg), .int (xs (nI i + 2).toNatClampNeg), .int (xs (nI i + 3).toNatClampNeg)] (c_X7_alter h) kv_X7_alter kl_16 (va_recv C.1.2.1 w.1 kc_X7.2.1 (wsX0 gX X)) rfl hl.1 (Nat.le_of_ble_eq_true rfl) ⟨Nat.le_of_ble_eq_true rfl, Nat.le_of_ble_eq_true rfl⟩ ⟨Nat.le_refl _, Nat.le_refl _⟩ dL_law_422 (fun r X1 H1 locs1 h hP1 hD1 hk1 hS1 => ?_)
  have w := LW.stepX C w hP1 hD1 hk1 hS1
  generalize H1 = H, locs1 = locs at w ⊢
  refine lv_aload_n C.1.1.1 C.1.1.2.1 dL_law_425 rfl (lv_at hl 2 rfl) ?_
  refine lv_aload_n C.1.1.1 C.1.1.2.1 dL_law_426 rfl (lv_at hl 0 rfl) ?_
  refine lv_iload_n C.1.1.1 C.1.1.2.1 dL_law_427 rfl (lv_at hl 3 rfl) ?_
  refine lv_iconst (v := 1) C.1.1.1 C.1.1.2.1 dL_law_428 (by decide) ?_
  refine lv_iadd C.1.1.1 C.1.1.2.1 dL_law_429 ?_
  refine va_sld C.1.1.1 C.1.1.2.1 C.2.2.1 C.2.2.2.1 (Nat.not_le.mpr C.2.2.2.1) w.2.2.2.2 (lin hL hi 1 (by decide)) dL_law_430 ?_
  refine lv_aload_n C.1.1.1 C.1.1.2.1 dL_law_431 rfl (lv_at hl 0 rfl) ?_
  refine lv_iload_n C.1.1.1 C.1.1.2.1 dL_law_432 rfl (lv_at hl 3 rfl) ?_
  refine lv_iconst (v := 2) C.1.1.1 C.1.1.2.1 dL_law_433 (by decide) ?_
  refine lv_iadd C.1.1.1 C.1.1.2.1 dL_law_434 ?_
  refine va_sld C.1.1.1 C.1.1.2.1 C.2.2.1 C.2.2.2.1 (Nat.not_le.mpr C.2.2.2.1) w.2.2.2.2 (lin hL hi 2 (by decide)) dL_law_435 ?_
  refine lv_aload_n C.1.1.1 C.1.1.2.1 dL_law_436 rfl (lv_at hl 0 rfl) ?_
  refine lv_iload_n C.1.1.1 C.1.1.2.1 dL_law_437 rfl (lv_at hl 3 rfl) ?_
  refine lv_iconst (v := 3) C.1.1.1 C.1.1.2.1 dL_law_438 (by decide) ?_
  refine lv_iadd C.1.1.1 C.1.1.2.1 dL_law_439 ?_
  refine va_sld C.1.1.1 C.1.1.2.1 C.2.2.1 C.2.2.2.1 (Nat.not_le.mpr C.2.2.2.1) w.2.2.2.2 (lin hL hi 3 (by decide)) dL_law_440 ?_
  refine y_calli C.2.1 w.2.2.1 w.2.2.2.1 w.2.2.2.2 C.2.2.2.2.2.1 [.int (xs (nI i + 1).toNatClampNeg), .int (xs (nI i + 2).toNatClampNeg), .int (xs (nI i + 3).toNatClampNeg)] (c_X8_alter h) kv_X8_alter kl_17 (va_recv C.2.1.2.1 w.2.2.1 kc_X8.2.1 (wsM0 gM M)) rfl hl.1 (Nat.le_of_ble_eq_true rfl) ⟨Nat.le_of_ble_eq_true rfl, Nat.le_of_ble_eq_true rfl⟩ ⟨Nat.le_refl _, Nat.le_refl _⟩ dL_law_441 (fun r1 M1 H1 locs1 h hP1 hD1 hk1 hS1 => ?_)
  obtain ⟨e2, hrel⟩ := h
  have w := LW.stepM C w hP1 hD1 hk1 hS1
  generalize H1 = H, locs1 = locs at w ⊢
  refine lv_icmp_eq (tgt := 1577) C.1.1.1 C.1.1.2.1 dL_law_444 (by decide) (fun _ => ?_) (fun hc => absurd e2 hc)
  exact hn _ _ _ _ _ hrel w hl
set_option maxHeartbeats 4000000 in
set_option maxRecDepth 100000 in
theorem law_9 {H : Heap} {locs : List Loc} {ls : Array Slot} {i : Nat} (hO : op_order Rel) (C : LC p s m c b L xs gX gM) (hL : L ≤ 320) (hi : i + 5 ≤ L) (hn : ∀ (X M : Mem) (H : Heap) (locs : List Loc) (ls : Array Slot), Rel X M → LW s gX gM X M H locs → lv_has ls 4 [(0, .ref b), (1, .ref (ga gX 0)), (2, .ref (ga gM 0)), (3, .int (nI i))] → W p l e room_1 s m #[Value.ref b] below meth c H locs 600000 7302250 (lw_Z below #[Value.ref b] s) (F0 m 1577 ls [])) (hR : Rel X M) (w : LW s gX gM X M H locs) (hl : lv_has ls 4 [(0, .ref b), (1, .ref (ga gX 0)), (2, .ref (ga gM 0)), (3, .int (nI i))]) : W p l e room_1 s m #[Value.ref b] below meth c H locs 600000 7302250 (lw_Z below #[Value.ref b] s) (F0 m 449 ls []) := by
  have h := hO X M (xs (nI i + 1).toNatClampNeg) (xs (nI i + 2).toNatClampNeg) (xs (nI i + 3).toNatClampNeg) hR
  refine lv_aload_n C.1.1.1 C.1.1.2.1 dL_law_449 rfl (lv_at hl 1 rfl) ?_
  refine lv_aload_n C.1.1.1 C.1.1.2.1 dL_law_450 rfl (lv_at hl 0 rfl) ?_
  refine lv_iload_n C.1.1.1 C.1.1.2.1 dL_law_451 rfl (lv_at hl 3 rfl) ?_
  refine lv_iconst (v := 1) C.1.1.1 C.1.1.2.1 dL_law_452 (by decide) ?_
  refine lv_iadd C.1.1.1 C.1.1.2.1 dL_law_453 ?_
  refine va_sld C.1.1.1 C.1.1.2.1 C.2.2.1 C.2.2.2.1 (Nat.not_le.mpr C.2.2.2.1) w.2.2.2.2 (lin hL hi 1 (by decide)) dL_law_454 ?_
  refine lv_aload_n C.1.1.1 C.1.1.2.1 dL_law_455 rfl (lv_at hl 0 rfl) ?_
  refine lv_iload_n C.1.1.1 C.1.1.2.1 dL_law_456 rfl (lv_at hl 3 rfl) ?_
  refine lv_iconst (v := 2) C.1.1.1 C.1.1.2.1 dL_law_457 (by decide) ?_
  refine lv_iadd C.1.1.1 C.1.1.2.1 dL_law_458 ?_
  refine va_sld C.1.1.1 C.1.1.2.1 C.2.2.1 C.2.2.2.1 (Nat.not_le.mpr C.2.2.2.1) w.2.2.2.2 (lin hL hi 2 (by decide)) dL_law_459 ?_
  refine lv_aload_n C.1.1.1 C.1.1.2.1 dL_law_460 rfl (lv_at hl 0 rfl) ?_
  refine lv_iload_n C.1.1.1 C.1.1.2.1 dL_law_461 rfl (lv_at hl 3 rfl) ?_
  refine lv_iconst (v := 3) C.1.1.1 C.1.1.2.1 dL_law_462 (by decide) ?_
  refine lv_iadd C.1.1.1 C.1.1.2.1 dL_law_463 ?_
  refine va_sld C.1.1.1 C.1.1.2.1 C.2.2.1 C.2.2.2.1 (Nat.not_le.mpr C.2.2.2.1) w.2.2.2.2 (lin hL hi 3 (by decide)) dL_law_464 ?_
  refine y_calli C.1 w.1 w.2.1 w.2.2.2.2 C.2.2.2.2.1 [.int (xs (nI i + 1).toNatClampNeg), .int (xs (nI i + 2).toNatClampNeg), .int (xs (nI i + 3).toNatClampNeg)] (c_X7_order h) kv_X7_order kl_18 (va_recv C.1.2.1 w.1 kc_X7.2.1 (wsX0 gX X)) rfl hl.1 (Nat.le_of_ble_eq_true rfl) ⟨Nat.le_of_ble_eq_true rfl, Nat.le_of_ble_eq_true rfl⟩ ⟨Nat.le_refl _, Nat.le_refl _⟩ dL_law_465 (fun r X1 H1 locs1 h hP1 hD1 hk1 hS1 => ?_)
  have w := LW.stepX C w hP1 hD1 hk1 hS1
  generalize H1 = H, locs1 = locs at w ⊢
  refine lv_aload_n C.1.1.1 C.1.1.2.1 dL_law_468 rfl (lv_at hl 2 rfl) ?_
  refine lv_aload_n C.1.1.1 C.1.1.2.1 dL_law_469 rfl (lv_at hl 0 rfl) ?_
  refine lv_iload_n C.1.1.1 C.1.1.2.1 dL_law_470 rfl (lv_at hl 3 rfl) ?_
  refine lv_iconst (v := 1) C.1.1.1 C.1.1.2.1 dL_law_471 (by decide) ?_
  refine lv_iadd C.1.1.1 C.1.1.2.1 dL_law_472 ?_
  refine va_sld C.1.1.1 C.1.1.2.1 C.2.2.1 C.2.2.2.1 (Nat.not_le.mpr C.2.2.2.1) w.2.2.2.2 (lin hL hi 1 (by decide)) dL_law_473 ?_
  refine lv_aload_n C.1.1.1 C.1.1.2.1 dL_law_474 rfl (lv_at hl 0 rfl) ?_
  refine lv_iload_n C.1.1.1 C.1.1.2.1 dL_law_475 rfl (lv_at hl 3 rfl) ?_
  refine lv_iconst (v := 2) C.1.1.1 C.1.1.2.1 dL_law_476 (by decide) ?_
  refine lv_iadd C.1.1.1 C.1.1.2.1 dL_law_477 ?_
  refine va_sld C.1.1.1 C.1.1.2.1 C.2.2.1 C.2.2.2.1 (Nat.not_le.mpr C.2.2.2.1) w.2.2.2.2 (lin hL hi 2 (by decide)) dL_law_478 ?_
  refine lv_aload_n C.1.1.1 C.1.1.2.1 dL_law_479 rfl (lv_at hl 0 rfl) ?_
  refine lv_iload_n C.1.1.1 C.1.1.2.1 dL_law_480 rfl (lv_at hl 3 rfl) ?_
  refine lv_iconst (v := 3) C.1.1.1 C.1.1.2.1 dL_law_481 (by decide) ?_
  refine lv_iadd C.1.1.1 C.1.1.2.1 dL_law_482 ?_
  refine va_sld C.1.1.1 C.1.1.2.1 C.2.2.1 C.2.2.2.1 (Nat.not_le.mpr C.2.2.2.1) w.2.2.2.2 (lin hL hi 3 (by decide)) dL_law_483 ?_
  refine y_calli C.2.1 w.2.2.1 w.2.2.2.1 w.2.2.2.2 C.2.2.2.2.2.1 [.int (xs (nI i + 1).toNatClampNeg), .int (xs (nI i + 2).toNatClampNeg), .int (xs (nI i + 3).toNatClampNeg)] (c_X8_order h) kv_X8_order kl_19 (va_recv C.2.1.2.1 w.2.2.1 kc_X8.2.1 (wsM0 gM M)) rfl hl.1 (Nat.le_of_ble_eq_true rfl) ⟨Nat.le_of_ble_eq_true rfl, Nat.le_of_ble_eq_true rfl⟩ ⟨Nat.le_refl _, Nat.le_refl _⟩ dL_law_484 (fun r1 M1 H1 locs1 h hP1 hD1 hk1 hS1 => ?_)
  obtain ⟨e2, hrel⟩ := h
  have w := LW.stepM C w hP1 hD1 hk1 hS1
  generalize H1 = H, locs1 = locs at w ⊢
  refine lv_icmp_eq (tgt := 1577) C.1.1.1 C.1.1.2.1 dL_law_487 (by decide) (fun _ => ?_) (fun hc => absurd e2 hc)
  exact hn _ _ _ _ _ hrel w hl
set_option maxHeartbeats 4000000 in
set_option maxRecDepth 100000 in
theorem law_10 {H : Heap} {locs : List Loc} {ls : Array Slot} {i : Nat} (hO : op_tend Rel) (C : LC p s m c b L xs gX gM) (hL : L ≤ 320) (hi : i + 5 ≤ L) (hn : ∀ (X M : Mem) (H : Heap) (locs : List Loc) (ls : Array Slot), Rel X M → LW s gX gM X M H locs → lv_has ls 4 [(0, .ref b), (1, .ref (ga gX 0)), (2, .ref (ga gM 0)), (3, .int (nI i))] → W p l e room_1 s m #[Value.ref b] below meth c H locs 600000 7302250 (lw_Z below #[Value.ref b] s) (F0 m 1577 ls [])) (hR : Rel X M) (w : LW s gX gM X M H locs) (hl : lv_has ls 4 [(0, .ref b), (1, .ref (ga gX 0)), (2, .ref (ga gM 0)), (3, .int (nI i))]) : W p l e room_1 s m #[Value.ref b] below meth c H locs 600000 7302250 (lw_Z below #[Value.ref b] s) (F0 m 492 ls []) := by
  have h := hO X M (xs (nI i + 1).toNatClampNeg) (xs (nI i + 2).toNatClampNeg) (xs (nI i + 3).toNatClampNeg) hR
  refine lv_aload_n C.1.1.1 C.1.1.2.1 dL_law_492 rfl (lv_at hl 1 rfl) ?_
  refine lv_aload_n C.1.1.1 C.1.1.2.1 dL_law_493 rfl (lv_at hl 0 rfl) ?_
  refine lv_iload_n C.1.1.1 C.1.1.2.1 dL_law_494 rfl (lv_at hl 3 rfl) ?_
  refine lv_iconst (v := 1) C.1.1.1 C.1.1.2.1 dL_law_495 (by decide) ?_
  refine lv_iadd C.1.1.1 C.1.1.2.1 dL_law_496 ?_
  refine va_sld C.1.1.1 C.1.1.2.1 C.2.2.1 C.2.2.2.1 (Nat.not_le.mpr C.2.2.2.1) w.2.2.2.2 (lin hL hi 1 (by decide)) dL_law_497 ?_
  refine lv_aload_n C.1.1.1 C.1.1.2.1 dL_law_498 rfl (lv_at hl 0 rfl) ?_
  refine lv_iload_n C.1.1.1 C.1.1.2.1 dL_law_499 rfl (lv_at hl 3 rfl) ?_
  refine lv_iconst (v := 2) C.1.1.1 C.1.1.2.1 dL_law_500 (by decide) ?_
  refine lv_iadd C.1.1.1 C.1.1.2.1 dL_law_501 ?_
  refine va_sld C.1.1.1 C.1.1.2.1 C.2.2.1 C.2.2.2.1 (Nat.not_le.mpr C.2.2.2.1) w.2.2.2.2 (lin hL hi 2 (by decide)) dL_law_502 ?_
  refine lv_aload_n C.1.1.1 C.1.1.2.1 dL_law_503 rfl (lv_at hl 0 rfl) ?_
  refine lv_iload_n C.1.1.1 C.1.1.2.1 dL_law_504 rfl (lv_at hl 3 rfl) ?_
  refine lv_iconst (v := 3) C.1.1.1 C.1.1.2.1 dL_law_505 (by decide) ?_
  refine lv_iadd C.1.1.1 C.1.1.2.1 dL_law_506 ?_
  refine va_sld C.1.1.1 C.1.1.2.1 C.2.2.1 C.2.2.2.1 (Nat.not_le.mpr C.2.2.2.1) w.2.2.2.2 (lin hL hi 3 (by decide)) dL_law_507 ?_
  refine y_calli C.1 w.1 w.2.1 w.2.2.2.2 C.2.2.2.2.1 [.int (xs (nI i + 1).toNatClampNeg), .int (xs (nI i + 2).toNatClampNeg), .int (xs (nI i + 3).toNatClampNeg)] (c_X7_tend h) kv_X7_tend kl_20 (va_recv C.1.2.1 w.1 kc_X7.2.1 (wsX0 gX X)) rfl hl.1 (Nat.le_of_ble_eq_true rfl) ⟨Nat.le_of_ble_eq_true rfl, Nat.le_of_ble_eq_true rfl⟩ ⟨Nat.le_refl _, Nat.le_refl _⟩ dL_law_508 (fun r X1 H1 locs1 h hP1 hD1 hk1 hS1 => ?_)
  have w := LW.stepX C w hP1 hD1 hk1 hS1
  generalize H1 = H, locs1 = locs at w ⊢
  refine lv_aload_n C.1.1.1 C.1.1.2.1 dL_law_511 rfl (lv_at hl 2 rfl) ?_
  refine lv_aload_n C.1.1.1 C.1.1.2.1 dL_law_512 rfl (lv_at hl 0 rfl) ?_
  refine lv_iload_n C.1.1.1 C.1.1.2.1 dL_law_513 rfl (lv_at hl 3 rfl) ?_
  refine lv_iconst (v := 1) C.1.1.1 C.1.1.2.1 dL_law_514 (by decide) ?_
  refine lv_iadd C.1.1.1 C.1.1.2.1 dL_law_515 ?_
  refine va_sld C.1.1.1 C.1.1.2.1 C.2.2.1 C.2.2.2.1 (Nat.not_le.mpr C.2.2.2.1) w.2.2.2.2 (lin hL hi 1 (by decide)) dL_law_516 ?_
  refine lv_aload_n C.1.1.1 C.1.1.2.1 dL_law_517 rfl (lv_at hl 0 rfl) ?_
  refine lv_iload_n C.1.1.1 C.1.1.2.1 dL_law_518 rfl (lv_at hl 3 rfl) ?_
  refine lv_iconst (v := 2) C.1.1.1 C.1.1.2.1 dL_law_519 (by decide) ?_
  refine lv_iadd C.1.1.1 C.1.1.2.1 dL_law_520 ?_
  refine va_sld C.1.1.1 C.1.1.2.1 C.2.2.1 C.2.2.2.1 (Nat.not_le.mpr C.2.2.2.1) w.2.2.2.2 (lin hL hi 2 (by decide)) dL_law_521 ?_
  refine lv_aload_n C.1.1.1 C.1.1.2.1 dL_law_522 rfl (lv_at hl 0 rfl) ?_
  refine lv_iload_n C.1.1.1 C.1.1.2.1 dL_law_523 rfl (lv_at hl 3 rfl) ?_
  refine lv_iconst (v := 3) C.1.1.1 C.1.1.2.1 dL_law_524 (by decide) ?_
  refine lv_iadd C.1.1.1 C.1.1.2.1 dL_law_525 ?_
  refine va_sld C.1.1.1 C.1.1.2.1 C.2.2.1 C.2.2.2.1 (Nat.not_le.mpr C.2.2.2.1) w.2.2.2.2 (lin hL hi 3 (by decide)) dL_law_526 ?_
  refine y_calli C.2.1 w.2.2.1 w.2.2.2.1 w.2.2.2.2 C.2.2.2.2.2.1 [.int (xs (nI i + 1).toNatClampNeg), .int (xs (nI i + 2).toNatClampNeg), .int (xs (nI i + 3).toNatClampNeg)] (c_X8_tend h) kv_X8_tend kl_21 (va_recv C.2.1.2.1 w.2.2.1 kc_X8.2.1 (wsM0 gM M)) rfl hl.1 (Nat.le_of_ble_eq_true rfl) ⟨Nat.le_of_ble_eq_true rfl, Nat.le_of_ble_eq_true rfl⟩ ⟨Nat.le_refl _, Nat.le_refl _⟩ dL_law_527 (fun r1 M1 H1 locs1 h hP1 hD1 hk1 hS1 => ?_)
  obtain ⟨e2, hrel⟩ := h
  have w := LW.stepM C w hP1 hD1 hk1 hS1
  generalize H1 = H, locs1 = locs at w ⊢
  refine lv_icmp_eq (tgt := 1577) C.1.1.1 C.1.1.2.1 dL_law_530 (by decide) (fun _ => ?_) (fun hc => absurd e2 hc)
  exact hn _ _ _ _ _ hrel w hl
set_option maxHeartbeats 4000000 in
set_option maxRecDepth 100000 in
theorem law_11 {H : Heap} {locs : List Loc} {ls : Array Slot} {i : Nat} (hO : op_free Rel) (C : LC p s m c b L xs gX gM) (hL : L ≤ 320) (hi : i + 5 ≤ L) (hn : ∀ (X M : Mem) (H : Heap) (locs : List Loc) (ls : Array Slot), Rel X M → LW s gX gM X M H locs → lv_has ls 4 [(0, .ref b), (1, .ref (ga gX 0)), (2, .ref (ga gM 0)), (3, .int (nI i))] → W p l e room_1 s m #[Value.ref b] below meth c H locs 600000 7302250 (lw_Z below #[Value.ref b] s) (F0 m 1577 ls [])) (hR : Rel X M) (w : LW s gX gM X M H locs) (hl : lv_has ls 4 [(0, .ref b), (1, .ref (ga gX 0)), (2, .ref (ga gM 0)), (3, .int (nI i))]) : W p l e room_1 s m #[Value.ref b] below meth c H locs 600000 7302250 (lw_Z below #[Value.ref b] s) (F0 m 535 ls []) := by
  have h := hO X M (xs (nI i + 1).toNatClampNeg) hR
  refine lv_aload_n C.1.1.1 C.1.1.2.1 dL_law_535 rfl (lv_at hl 1 rfl) ?_
  refine lv_aload_n C.1.1.1 C.1.1.2.1 dL_law_536 rfl (lv_at hl 0 rfl) ?_
  refine lv_iload_n C.1.1.1 C.1.1.2.1 dL_law_537 rfl (lv_at hl 3 rfl) ?_
  refine lv_iconst (v := 1) C.1.1.1 C.1.1.2.1 dL_law_538 (by decide) ?_
  refine lv_iadd C.1.1.1 C.1.1.2.1 dL_law_539 ?_
  refine va_sld C.1.1.1 C.1.1.2.1 C.2.2.1 C.2.2.2.1 (Nat.not_le.mpr C.2.2.2.1) w.2.2.2.2 (lin hL hi 1 (by decide)) dL_law_540 ?_
  refine y_calli C.1 w.1 w.2.1 w.2.2.2.2 C.2.2.2.2.1 [.int (xs (nI i + 1).toNatClampNeg)] (c_X7_free h) kv_X7_free kl_22 (va_recv C.1.2.1 w.1 kc_X7.2.1 (wsX0 gX X)) rfl hl.1 (Nat.le_of_ble_eq_true rfl) ⟨Nat.le_of_ble_eq_true rfl, Nat.le_of_ble_eq_true rfl⟩ ⟨Nat.le_refl _, Nat.le_refl _⟩ dL_law_541 (fun r X1 H1 locs1 h hP1 hD1 hk1 hS1 => ?_)
  have w := LW.stepX C w hP1 hD1 hk1 hS1
  generalize H1 = H, locs1 = locs at w ⊢
  refine lv_aload_n C.1.1.1 C.1.1.2.1 dL_law_544 rfl (lv_at hl 2 rfl) ?_
  refine lv_aload_n C.1.1.1 C.1.1.2.1 dL_law_545 rfl (lv_at hl 0 rfl) ?_
  refine lv_iload_n C.1.1.1 C.1.1.2.1 dL_law_546 rfl (lv_at hl 3 rfl) ?_
  refine lv_iconst (v := 1) C.1.1.1 C.1.1.2.1 dL_law_547 (by decide) ?_
  refine lv_iadd C.1.1.1 C.1.1.2.1 dL_law_548 ?_
  refine va_sld C.1.1.1 C.1.1.2.1 C.2.2.1 C.2.2.2.1 (Nat.not_le.mpr C.2.2.2.1) w.2.2.2.2 (lin hL hi 1 (by decide)) dL_law_549 ?_
  refine y_calli C.2.1 w.2.2.1 w.2.2.2.1 w.2.2.2.2 C.2.2.2.2.2.1 [.int (xs (nI i + 1).toNatClampNeg)] (c_X8_free h) kv_X8_free kl_23 (va_recv C.2.1.2.1 w.2.2.1 kc_X8.2.1 (wsM0 gM M)) rfl hl.1 (Nat.le_of_ble_eq_true rfl) ⟨Nat.le_of_ble_eq_true rfl, Nat.le_of_ble_eq_true rfl⟩ ⟨Nat.le_refl _, Nat.le_refl _⟩ dL_law_550 (fun r1 M1 H1 locs1 h hP1 hD1 hk1 hS1 => ?_)
  obtain ⟨e2, hrel⟩ := h
  have w := LW.stepM C w hP1 hD1 hk1 hS1
  generalize H1 = H, locs1 = locs at w ⊢
  refine lv_icmp_eq (tgt := 1577) C.1.1.1 C.1.1.2.1 dL_law_553 (by decide) (fun _ => ?_) (fun hc => absurd e2 hc)
  exact hn _ _ _ _ _ hrel w hl
set_option maxHeartbeats 4000000 in
set_option maxRecDepth 100000 in
theorem law_12 {H : Heap} {locs : List Loc} {ls : Array Slot} {i : Nat} (hO : op_hire Rel) (C : LC p s m c b L xs gX gM) (hL : L ≤ 320) (hi : i + 5 ≤ L) (hn : ∀ (X M : Mem) (H : Heap) (locs : List Loc) (ls : Array Slot), Rel X M → LW s gX gM X M H locs → lv_has ls 4 [(0, .ref b), (1, .ref (ga gX 0)), (2, .ref (ga gM 0)), (3, .int (nI i))] → W p l e room_1 s m #[Value.ref b] below meth c H locs 600000 7302250 (lw_Z below #[Value.ref b] s) (F0 m 1577 ls [])) (hR : Rel X M) (w : LW s gX gM X M H locs) (hl : lv_has ls 4 [(0, .ref b), (1, .ref (ga gX 0)), (2, .ref (ga gM 0)), (3, .int (nI i))]) : W p l e room_1 s m #[Value.ref b] below meth c H locs 600000 7302250 (lw_Z below #[Value.ref b] s) (F0 m 558 ls []) := by
  have h := hO X M (xs (nI i + 1).toNatClampNeg) (xs (nI i + 2).toNatClampNeg) (xs (nI i + 3).toNatClampNeg) hR
  refine lv_aload_n C.1.1.1 C.1.1.2.1 dL_law_558 rfl (lv_at hl 1 rfl) ?_
  refine lv_aload_n C.1.1.1 C.1.1.2.1 dL_law_559 rfl (lv_at hl 0 rfl) ?_
  refine lv_iload_n C.1.1.1 C.1.1.2.1 dL_law_560 rfl (lv_at hl 3 rfl) ?_
  refine lv_iconst (v := 1) C.1.1.1 C.1.1.2.1 dL_law_561 (by decide) ?_
  refine lv_iadd C.1.1.1 C.1.1.2.1 dL_law_562 ?_
  refine va_sld C.1.1.1 C.1.1.2.1 C.2.2.1 C.2.2.2.1 (Nat.not_le.mpr C.2.2.2.1) w.2.2.2.2 (lin hL hi 1 (by decide)) dL_law_563 ?_
  refine lv_aload_n C.1.1.1 C.1.1.2.1 dL_law_564 rfl (lv_at hl 0 rfl) ?_
  refine lv_iload_n C.1.1.1 C.1.1.2.1 dL_law_565 rfl (lv_at hl 3 rfl) ?_
  refine lv_iconst (v := 2) C.1.1.1 C.1.1.2.1 dL_law_566 (by decide) ?_
  refine lv_iadd C.1.1.1 C.1.1.2.1 dL_law_567 ?_
  refine va_sld C.1.1.1 C.1.1.2.1 C.2.2.1 C.2.2.2.1 (Nat.not_le.mpr C.2.2.2.1) w.2.2.2.2 (lin hL hi 2 (by decide)) dL_law_568 ?_
  refine lv_aload_n C.1.1.1 C.1.1.2.1 dL_law_569 rfl (lv_at hl 0 rfl) ?_
  refine lv_iload_n C.1.1.1 C.1.1.2.1 dL_law_570 rfl (lv_at hl 3 rfl) ?_
  refine lv_iconst (v := 3) C.1.1.1 C.1.1.2.1 dL_law_571 (by decide) ?_
  refine lv_iadd C.1.1.1 C.1.1.2.1 dL_law_572 ?_
  refine va_sld C.1.1.1 C.1.1.2.1 C.2.2.1 C.2.2.2.1 (Nat.not_le.mpr C.2.2.2.1) w.2.2.2.2 (lin hL hi 3 (by decide)) dL_law_573 ?_
  refine y_calli C.1 w.1 w.2.1 w.2.2.2.2 C.2.2.2.2.1 [.int (xs (nI i + 1).toNatClampNeg), .int (xs (nI i + 2).toNatClampNeg), .int (xs (nI i + 3).toNatClampNeg)] (c_X7_hire h) kv_X7_hire kl_24 (va_recv C.1.2.1 w.1 kc_X7.2.1 (wsX0 gX X)) rfl hl.1 (Nat.le_of_ble_eq_true rfl) ⟨Nat.le_of_ble_eq_true rfl, Nat.le_of_ble_eq_true rfl⟩ ⟨Nat.le_refl _, Nat.le_refl _⟩ dL_law_574 (fun r X1 H1 locs1 h hP1 hD1 hk1 hS1 => ?_)
  have w := LW.stepX C w hP1 hD1 hk1 hS1
  generalize H1 = H, locs1 = locs at w ⊢
  refine lv_aload_n C.1.1.1 C.1.1.2.1 dL_law_577 rfl (lv_at hl 2 rfl) ?_
  refine lv_aload_n C.1.1.1 C.1.1.2.1 dL_law_578 rfl (lv_at hl 0 rfl) ?_
  refine lv_iload_n C.1.1.1 C.1.1.2.1 dL_law_579 rfl (lv_at hl 3 rfl) ?_
  refine lv_iconst (v := 1) C.1.1.1 C.1.1.2.1 dL_law_580 (by decide) ?_
  refine lv_iadd C.1.1.1 C.1.1.2.1 dL_law_581 ?_
  refine va_sld C.1.1.1 C.1.1.2.1 C.2.2.1 C.2.2.2.1 (Nat.not_le.mpr C.2.2.2.1) w.2.2.2.2 (lin hL hi 1 (by decide)) dL_law_582 ?_
  refine lv_aload_n C.1.1.1 C.1.1.2.1 dL_law_583 rfl (lv_at hl 0 rfl) ?_
  refine lv_iload_n C.1.1.1 C.1.1.2.1 dL_law_584 rfl (lv_at hl 3 rfl) ?_
  refine lv_iconst (v := 2) C.1.1.1 C.1.1.2.1 dL_law_585 (by decide) ?_
  refine lv_iadd C.1.1.1 C.1.1.2.1 dL_law_586 ?_
  refine va_sld C.1.1.1 C.1.1.2.1 C.2.2.1 C.2.2.2.1 (Nat.not_le.mpr C.2.2.2.1) w.2.2.2.2 (lin hL hi 2 (by decide)) dL_law_587 ?_
  refine lv_aload_n C.1.1.1 C.1.1.2.1 dL_law_588 rfl (lv_at hl 0 rfl) ?_
  refine lv_iload_n C.1.1.1 C.1.1.2.1 dL_law_589 rfl (lv_at hl 3 rfl) ?_
  refine lv_iconst (v := 3) C.1.1.1 C.1.1.2.1 dL_law_590 (by decide) ?_
  refine lv_iadd C.1.1.1 C.1.1.2.1 dL_law_591 ?_
  refine va_sld C.1.1.1 C.1.1.2.1 C.2.2.1 C.2.2.2.1 (Nat.not_le.mpr C.2.2.2.1) w.2.2.2.2 (lin hL hi 3 (by decide)) dL_law_592 ?_
  refine y_calli C.2.1 w.2.2.1 w.2.2.2.1 w.2.2.2.2 C.2.2.2.2.2.1 [.int (xs (nI i + 1).toNatClampNeg), .int (xs (nI i + 2).toNatClampNeg), .int (xs (nI i + 3).toNatClampNeg)] (c_X8_hire h) kv_X8_hire kl_25 (va_recv C.2.1.2.1 w.2.2.1 kc_X8.2.1 (wsM0 gM M)) rfl hl.1 (Nat.le_of_ble_eq_true rfl) ⟨Nat.le_of_ble_eq_true rfl, Nat.le_of_ble_eq_true rfl⟩ ⟨Nat.le_refl _, Nat.le_refl _⟩ dL_law_593 (fun r1 M1 H1 locs1 h hP1 hD1 hk1 hS1 => ?_)
  obtain ⟨e2, hrel⟩ := h
  have w := LW.stepM C w hP1 hD1 hk1 hS1
  generalize H1 = H, locs1 = locs at w ⊢
  refine lv_icmp_eq (tgt := 1577) C.1.1.1 C.1.1.2.1 dL_law_596 (by decide) (fun _ => ?_) (fun hc => absurd e2 hc)
  exact hn _ _ _ _ _ hrel w hl
set_option maxHeartbeats 4000000 in
set_option maxRecDepth 100000 in
theorem law_13 {H : Heap} {locs : List Loc} {ls : Array Slot} {i : Nat} (hO : op_dismiss Rel) (C : LC p s m c b L xs gX gM) (hL : L ≤ 320) (hi : i + 5 ≤ L) (hn : ∀ (X M : Mem) (H : Heap) (locs : List Loc) (ls : Array Slot), Rel X M → LW s gX gM X M H locs → lv_has ls 4 [(0, .ref b), (1, .ref (ga gX 0)), (2, .ref (ga gM 0)), (3, .int (nI i))] → W p l e room_1 s m #[Value.ref b] below meth c H locs 600000 7302250 (lw_Z below #[Value.ref b] s) (F0 m 1577 ls [])) (hR : Rel X M) (w : LW s gX gM X M H locs) (hl : lv_has ls 4 [(0, .ref b), (1, .ref (ga gX 0)), (2, .ref (ga gM 0)), (3, .int (nI i))]) : W p l e room_1 s m #[Value.ref b] below meth c H locs 600000 7302250 (lw_Z below #[Value.ref b] s) (F0 m 601 ls []) := by
  have h := hO X M (xs (nI i + 1).toNatClampNeg) hR
  refine lv_aload_n C.1.1.1 C.1.1.2.1 dL_law_601 rfl (lv_at hl 1 rfl) ?_
  refine lv_aload_n C.1.1.1 C.1.1.2.1 dL_law_602 rfl (lv_at hl 0 rfl) ?_
  refine lv_iload_n C.1.1.1 C.1.1.2.1 dL_law_603 rfl (lv_at hl 3 rfl) ?_
  refine lv_iconst (v := 1) C.1.1.1 C.1.1.2.1 dL_law_604 (by decide) ?_
  refine lv_iadd C.1.1.1 C.1.1.2.1 dL_law_605 ?_
  refine va_sld C.1.1.1 C.1.1.2.1 C.2.2.1 C.2.2.2.1 (Nat.not_le.mpr C.2.2.2.1) w.2.2.2.2 (lin hL hi 1 (by decide)) dL_law_606 ?_
  refine y_calli C.1 w.1 w.2.1 w.2.2.2.2 C.2.2.2.2.1 [.int (xs (nI i + 1).toNatClampNeg)] (c_X7_dismiss h) kv_X7_dismiss kl_26 (va_recv C.1.2.1 w.1 kc_X7.2.1 (wsX0 gX X)) rfl hl.1 (Nat.le_of_ble_eq_true rfl) ⟨Nat.le_of_ble_eq_true rfl, Nat.le_of_ble_eq_true rfl⟩ ⟨Nat.le_refl _, Nat.le_refl _⟩ dL_law_607 (fun r X1 H1 locs1 h hP1 hD1 hk1 hS1 => ?_)
  have w := LW.stepX C w hP1 hD1 hk1 hS1
  generalize H1 = H, locs1 = locs at w ⊢
  refine lv_aload_n C.1.1.1 C.1.1.2.1 dL_law_610 rfl (lv_at hl 2 rfl) ?_
  refine lv_aload_n C.1.1.1 C.1.1.2.1 dL_law_611 rfl (lv_at hl 0 rfl) ?_
  refine lv_iload_n C.1.1.1 C.1.1.2.1 dL_law_612 rfl (lv_at hl 3 rfl) ?_
  refine lv_iconst (v := 1) C.1.1.1 C.1.1.2.1 dL_law_613 (by decide) ?_
  refine lv_iadd C.1.1.1 C.1.1.2.1 dL_law_614 ?_
  refine va_sld C.1.1.1 C.1.1.2.1 C.2.2.1 C.2.2.2.1 (Nat.not_le.mpr C.2.2.2.1) w.2.2.2.2 (lin hL hi 1 (by decide)) dL_law_615 ?_
  refine y_calli C.2.1 w.2.2.1 w.2.2.2.1 w.2.2.2.2 C.2.2.2.2.2.1 [.int (xs (nI i + 1).toNatClampNeg)] (c_X8_dismiss h) kv_X8_dismiss kl_27 (va_recv C.2.1.2.1 w.2.2.1 kc_X8.2.1 (wsM0 gM M)) rfl hl.1 (Nat.le_of_ble_eq_true rfl) ⟨Nat.le_of_ble_eq_true rfl, Nat.le_of_ble_eq_true rfl⟩ ⟨Nat.le_refl _, Nat.le_refl _⟩ dL_law_616 (fun r1 M1 H1 locs1 h hP1 hD1 hk1 hS1 => ?_)
  obtain ⟨e2, hrel⟩ := h
  have w := LW.stepM C w hP1 hD1 hk1 hS1
  generalize H1 = H, locs1 = locs at w ⊢
  refine lv_icmp_eq (tgt := 1577) C.1.1.1 C.1.1.2.1 dL_law_619 (by decide) (fun _ => ?_) (fun hc => absurd e2 hc)
  exact hn _ _ _ _ _ hrel w hl
set_option maxHeartbeats 4000000 in
set_option maxRecDepth 100000 in
theorem law_14 {H : Heap} {locs : List Loc} {ls : Array Slot} {i : Nat} (hO : op_nights Rel) (C : LC p s m c b L xs gX gM) (hL : L ≤ 320) (hi : i + 5 ≤ L) (hn : ∀ (X M : Mem) (H : Heap) (locs : List Loc) (ls : Array Slot), Rel X M → LW s gX gM X M H locs → lv_has ls 4 [(0, .ref b), (1, .ref (ga gX 0)), (2, .ref (ga gM 0)), (3, .int (nI i))] → W p l e room_1 s m #[Value.ref b] below meth c H locs 600000 7302250 (lw_Z below #[Value.ref b] s) (F0 m 1577 ls [])) (hR : Rel X M) (w : LW s gX gM X M H locs) (hl : lv_has ls 4 [(0, .ref b), (1, .ref (ga gX 0)), (2, .ref (ga gM 0)), (3, .int (nI i))]) : W p l e room_1 s m #[Value.ref b] below meth c H locs 600000 7302250 (lw_Z below #[Value.ref b] s) (F0 m 624 ls []) := by
  have h := hO X M (xs (nI i + 1).toNatClampNeg) hR
  refine lv_aload_n C.1.1.1 C.1.1.2.1 dL_law_624 rfl (lv_at hl 1 rfl) ?_
  refine lv_aload_n C.1.1.1 C.1.1.2.1 dL_law_625 rfl (lv_at hl 0 rfl) ?_
  refine lv_iload_n C.1.1.1 C.1.1.2.1 dL_law_626 rfl (lv_at hl 3 rfl) ?_
  refine lv_iconst (v := 1) C.1.1.1 C.1.1.2.1 dL_law_627 (by decide) ?_
  refine lv_iadd C.1.1.1 C.1.1.2.1 dL_law_628 ?_
  refine va_sld C.1.1.1 C.1.1.2.1 C.2.2.1 C.2.2.2.1 (Nat.not_le.mpr C.2.2.2.1) w.2.2.2.2 (lin hL hi 1 (by decide)) dL_law_629 ?_
  refine y_calli C.1 w.1 w.2.1 w.2.2.2.2 C.2.2.2.2.1 [.int (xs (nI i + 1).toNatClampNeg)] (c_X7_nights h) kv_X7_nights kl_28 (va_recv C.1.2.1 w.1 kc_X7.2.1 (wsX0 gX X)) rfl hl.1 (Nat.le_of_ble_eq_true rfl) ⟨Nat.le_of_ble_eq_true rfl, Nat.le_of_ble_eq_true rfl⟩ ⟨Nat.le_refl _, Nat.le_refl _⟩ dL_law_630 (fun r X1 H1 locs1 h hP1 hD1 hk1 hS1 => ?_)
  have w := LW.stepX C w hP1 hD1 hk1 hS1
  generalize H1 = H, locs1 = locs at w ⊢
  refine lv_aload_n C.1.1.1 C.1.1.2.1 dL_law_633 rfl (lv_at hl 2 rfl) ?_
  refine lv_aload_n C.1.1.1 C.1.1.2.1 dL_law_634 rfl (lv_at hl 0 rfl) ?_
  refine lv_iload_n C.1.1.1 C.1.1.2.1 dL_law_635 rfl (lv_at hl 3 rfl) ?_
  refine lv_iconst (v := 1) C.1.1.1 C.1.1.2.1 dL_law_636 (by decide) ?_
  refine lv_iadd C.1.1.1 C.1.1.2.1 dL_law_637 ?_
  refine va_sld C.1.1.1 C.1.1.2.1 C.2.2.1 C.2.2.2.1 (Nat.not_le.mpr C.2.2.2.1) w.2.2.2.2 (lin hL hi 1 (by decide)) dL_law_638 ?_
  refine y_calli C.2.1 w.2.2.1 w.2.2.2.1 w.2.2.2.2 C.2.2.2.2.2.1 [.int (xs (nI i + 1).toNatClampNeg)] (c_X8_nights h) kv_X8_nights kl_29 (va_recv C.2.1.2.1 w.2.2.1 kc_X8.2.1 (wsM0 gM M)) rfl hl.1 (Nat.le_of_ble_eq_true rfl) ⟨Nat.le_of_ble_eq_true rfl, Nat.le_of_ble_eq_true rfl⟩ ⟨Nat.le_refl _, Nat.le_refl _⟩ dL_law_639 (fun r1 M1 H1 locs1 h hP1 hD1 hk1 hS1 => ?_)
  obtain ⟨e2, hrel⟩ := h
  have w := LW.stepM C w hP1 hD1 hk1 hS1
  generalize H1 = H, locs1 = locs at w ⊢
  refine lv_icmp_eq (tgt := 1577) C.1.1.1 C.1.1.2.1 dL_law_642 (by decide) (fun _ => ?_) (fun hc => absurd e2 hc)
  exact hn _ _ _ _ _ hrel w hl
set_option maxHeartbeats 4000000 in
set_option maxRecDepth 100000 in
theorem law_15 {H : Heap} {locs : List Loc} {ls : Array Slot} {i : Nat} (hO : op_runs Rel) (C : LC p s m c b L xs gX gM) (hL : L ≤ 320) (hi : i + 5 ≤ L) (hn : ∀ (X M : Mem) (H : Heap) (locs : List Loc) (ls : Array Slot), Rel X M → LW s gX gM X M H locs → lv_has ls 4 [(0, .ref b), (1, .ref (ga gX 0)), (2, .ref (ga gM 0)), (3, .int (nI i))] → W p l e room_1 s m #[Value.ref b] below meth c H locs 600000 7302250 (lw_Z below #[Value.ref b] s) (F0 m 1577 ls [])) (hR : Rel X M) (w : LW s gX gM X M H locs) (hl : lv_has ls 4 [(0, .ref b), (1, .ref (ga gX 0)), (2, .ref (ga gM 0)), (3, .int (nI i))]) : W p l e room_1 s m #[Value.ref b] below meth c H locs 600000 7302250 (lw_Z below #[Value.ref b] s) (F0 m 647 ls []) := by
  have h := hO X M (xs (nI i + 1).toNatClampNeg) (xs (nI i + 2).toNatClampNeg) hR
  refine lv_aload_n C.1.1.1 C.1.1.2.1 dL_law_647 rfl (lv_at hl 1 rfl) ?_
  refine lv_aload_n C.1.1.1 C.1.1.2.1 dL_law_648 rfl (lv_at hl 0 rfl) ?_
  refine lv_iload_n C.1.1.1 C.1.1.2.1 dL_law_649 rfl (lv_at hl 3 rfl) ?_
  refine lv_iconst (v := 1) C.1.1.1 C.1.1.2.1 dL_law_650 (by decide) ?_
  refine lv_iadd C.1.1.1 C.1.1.2.1 dL_law_651 ?_
  refine va_sld C.1.1.1 C.1.1.2.1 C.2.2.1 C.2.2.2.1 (Nat.not_le.mpr C.2.2.2.1) w.2.2.2.2 (lin hL hi 1 (by decide)) dL_law_652 ?_
  refine lv_aload_n C.1.1.1 C.1.1.2.1 dL_law_653 rfl (lv_at hl 0 rfl) ?_
  refine lv_iload_n C.1.1.1 C.1.1.2.1 dL_law_654 rfl (lv_at hl 3 rfl) ?_
  refine lv_iconst (v := 2) C.1.1.1 C.1.1.2.1 dL_law_655 (by decide) ?_
  refine lv_iadd C.1.1.1 C.1.1.2.1 dL_law_656 ?_
  refine va_sld C.1.1.1 C.1.1.2.1 C.2.2.1 C.2.2.2.1 (Nat.not_le.mpr C.2.2.2.1) w.2.2.2.2 (lin hL hi 2 (by decide)) dL_law_657 ?_
  refine y_calli C.1 w.1 w.2.1 w.2.2.2.2 C.2.2.2.2.1 [.int (xs (nI i + 1).toNatClampNeg), .int (xs (nI i + 2).toNatClampNeg)] (c_X7_runs h) kv_X7_runs kl_30 (va_recv C.1.2.1 w.1 kc_X7.2.1 (wsX0 gX X)) rfl hl.1 (Nat.le_of_ble_eq_true rfl) ⟨Nat.le_of_ble_eq_true rfl, Nat.le_of_ble_eq_true rfl⟩ ⟨Nat.le_refl _, Nat.le_refl _⟩ dL_law_658 (fun r X1 H1 locs1 h hP1 hD1 hk1 hS1 => ?_)
  have w := LW.stepX C w hP1 hD1 hk1 hS1
  generalize H1 = H, locs1 = locs at w ⊢
  refine lv_aload_n C.1.1.1 C.1.1.2.1 dL_law_661 rfl (lv_at hl 2 rfl) ?_
  refine lv_aload_n C.1.1.1 C.1.1.2.1 dL_law_662 rfl (lv_at hl 0 rfl) ?_
  refine lv_iload_n C.1.1.1 C.1.1.2.1 dL_law_663 rfl (lv_at hl 3 rfl) ?_
  refine lv_iconst (v := 1) C.1.1.1 C.1.1.2.1 dL_law_664 (by decide) ?_
  refine lv_iadd C.1.1.1 C.1.1.2.1 dL_law_665 ?_
  refine va_sld C.1.1.1 C.1.1.2.1 C.2.2.1 C.2.2.2.1 (Nat.not_le.mpr C.2.2.2.1) w.2.2.2.2 (lin hL hi 1 (by decide)) dL_law_666 ?_
  refine lv_aload_n C.1.1.1 C.1.1.2.1 dL_law_667 rfl (lv_at hl 0 rfl) ?_
  refine lv_iload_n C.1.1.1 C.1.1.2.1 dL_law_668 rfl (lv_at hl 3 rfl) ?_
  refine lv_iconst (v := 2) C.1.1.1 C.1.1.2.1 dL_law_669 (by decide) ?_
  refine lv_iadd C.1.1.1 C.1.1.2.1 dL_law_670 ?_
  refine va_sld C.1.1.1 C.1.1.2.1 C.2.2.1 C.2.2.2.1 (Nat.not_le.mpr C.2.2.2.1) w.2.2.2.2 (lin hL hi 2 (by decide)) dL_law_671 ?_
  refine y_calli C.2.1 w.2.2.1 w.2.2.2.1 w.2.2.2.2 C.2.2.2.2.2.1 [.int (xs (nI i + 1).toNatClampNeg), .int (xs (nI i + 2).toNatClampNeg)] (c_X8_runs h) kv_X8_runs kl_31 (va_recv C.2.1.2.1 w.2.2.1 kc_X8.2.1 (wsM0 gM M)) rfl hl.1 (Nat.le_of_ble_eq_true rfl) ⟨Nat.le_of_ble_eq_true rfl, Nat.le_of_ble_eq_true rfl⟩ ⟨Nat.le_refl _, Nat.le_refl _⟩ dL_law_672 (fun r1 M1 H1 locs1 h hP1 hD1 hk1 hS1 => ?_)
  obtain ⟨e2, hrel⟩ := h
  have w := LW.stepM C w hP1 hD1 hk1 hS1
  generalize H1 = H, locs1 = locs at w ⊢
  refine lv_icmp_eq (tgt := 1577) C.1.1.1 C.1.1.2.1 dL_law_675 (by decide) (fun _ => ?_) (fun hc => absurd e2 hc)
  exact hn _ _ _ _ _ hrel w hl
set_option maxHeartbeats 4000000 in
set_option maxRecDepth 100000 in
theorem law_16 {H : Heap} {locs : List Loc} {ls : Array Slot} {i : Nat} (hO : op_ahead Rel) (C : LC p s m c b L xs gX gM) (hL : L ≤ 320) (hi : i + 5 ≤ L) (hn : ∀ (X M : Mem) (H : Heap) (locs : List Loc) (ls : Array Slot), Rel X M → LW s gX gM X M H locs → lv_has ls 4 [(0, .ref b), (1, .ref (ga gX 0)), (2, .ref (ga gM 0)), (3, .int (nI i))] → W p l e room_1 s m #[Value.ref b] below meth c H locs 600000 7302250 (lw_Z below #[Value.ref b] s) (F0 m 1577 ls [])) (hR : Rel X M) (w : LW s gX gM X M H locs) (hl : lv_has ls 4 [(0, .ref b), (1, .ref (ga gX 0)), (2, .ref (ga gM 0)), (3, .int (nI i))]) : W p l e room_1 s m #[Value.ref b] below meth c H locs 600000 7302250 (lw_Z below #[Value.ref b] s) (F0 m 680 ls []) := by
  have h := hO X M (xs (nI i + 1).toNatClampNeg) (xs (nI i + 2).toNatClampNeg) (xs (nI i + 3).toNatClampNeg) hR
  refine lv_aload_n C.1.1.1 C.1.1.2.1 dL_law_680 rfl (lv_at hl 1 rfl) ?_
  refine lv_aload_n C.1.1.1 C.1.1.2.1 dL_law_681 rfl (lv_at hl 0 rfl) ?_
  refine lv_iload_n C.1.1.1 C.1.1.2.1 dL_law_682 rfl (lv_at hl 3 rfl) ?_
  refine lv_iconst (v := 1) C.1.1.1 C.1.1.2.1 dL_law_683 (by decide) ?_
  refine lv_iadd C.1.1.1 C.1.1.2.1 dL_law_684 ?_
  refine va_sld C.1.1.1 C.1.1.2.1 C.2.2.1 C.2.2.2.1 (Nat.not_le.mpr C.2.2.2.1) w.2.2.2.2 (lin hL hi 1 (by decide)) dL_law_685 ?_
  refine lv_aload_n C.1.1.1 C.1.1.2.1 dL_law_686 rfl (lv_at hl 0 rfl) ?_
  refine lv_iload_n C.1.1.1 C.1.1.2.1 dL_law_687 rfl (lv_at hl 3 rfl) ?_
  refine lv_iconst (v := 2) C.1.1.1 C.1.1.2.1 dL_law_688 (by decide) ?_
  refine lv_iadd C.1.1.1 C.1.1.2.1 dL_law_689 ?_
  refine va_sld C.1.1.1 C.1.1.2.1 C.2.2.1 C.2.2.2.1 (Nat.not_le.mpr C.2.2.2.1) w.2.2.2.2 (lin hL hi 2 (by decide)) dL_law_690 ?_
  refine lv_aload_n C.1.1.1 C.1.1.2.1 dL_law_691 rfl (lv_at hl 0 rfl) ?_
  refine lv_iload_n C.1.1.1 C.1.1.2.1 dL_law_692 rfl (lv_at hl 3 rfl) ?_
  refine lv_iconst (v := 3) C.1.1.1 C.1.1.2.1 dL_law_693 (by decide) ?_
  refine lv_iadd C.1.1.1 C.1.1.2.1 dL_law_694 ?_
  refine va_sld C.1.1.1 C.1.1.2.1 C.2.2.1 C.2.2.2.1 (Nat.not_le.mpr C.2.2.2.1) w.2.2.2.2 (lin hL hi 3 (by decide)) dL_law_695 ?_
  refine y_calli C.1 w.1 w.2.1 w.2.2.2.2 C.2.2.2.2.1 [.int (xs (nI i + 1).toNatClampNeg), .int (xs (nI i + 2).toNatClampNeg), .int (xs (nI i + 3).toNatClampNeg)] (c_X7_ahead h) kv_X7_ahead kl_32 (va_recv C.1.2.1 w.1 kc_X7.2.1 (wsX0 gX X)) rfl hl.1 (Nat.le_of_ble_eq_true rfl) ⟨Nat.le_of_ble_eq_true rfl, Nat.le_of_ble_eq_true rfl⟩ ⟨Nat.le_refl _, Nat.le_refl _⟩ dL_law_696 (fun r X1 H1 locs1 h hP1 hD1 hk1 hS1 => ?_)
  have w := LW.stepX C w hP1 hD1 hk1 hS1
  generalize H1 = H, locs1 = locs at w ⊢
  refine lv_aload_n C.1.1.1 C.1.1.2.1 dL_law_699 rfl (lv_at hl 2 rfl) ?_
  refine lv_aload_n C.1.1.1 C.1.1.2.1 dL_law_700 rfl (lv_at hl 0 rfl) ?_
  refine lv_iload_n C.1.1.1 C.1.1.2.1 dL_law_701 rfl (lv_at hl 3 rfl) ?_
  refine lv_iconst (v := 1) C.1.1.1 C.1.1.2.1 dL_law_702 (by decide) ?_
  refine lv_iadd C.1.1.1 C.1.1.2.1 dL_law_703 ?_
  refine va_sld C.1.1.1 C.1.1.2.1 C.2.2.1 C.2.2.2.1 (Nat.not_le.mpr C.2.2.2.1) w.2.2.2.2 (lin hL hi 1 (by decide)) dL_law_704 ?_
  refine lv_aload_n C.1.1.1 C.1.1.2.1 dL_law_705 rfl (lv_at hl 0 rfl) ?_
  refine lv_iload_n C.1.1.1 C.1.1.2.1 dL_law_706 rfl (lv_at hl 3 rfl) ?_
  refine lv_iconst (v := 2) C.1.1.1 C.1.1.2.1 dL_law_707 (by decide) ?_
  refine lv_iadd C.1.1.1 C.1.1.2.1 dL_law_708 ?_
  refine va_sld C.1.1.1 C.1.1.2.1 C.2.2.1 C.2.2.2.1 (Nat.not_le.mpr C.2.2.2.1) w.2.2.2.2 (lin hL hi 2 (by decide)) dL_law_709 ?_
  refine lv_aload_n C.1.1.1 C.1.1.2.1 dL_law_710 rfl (lv_at hl 0 rfl) ?_
  refine lv_iload_n C.1.1.1 C.1.1.2.1 dL_law_711 rfl (lv_at hl 3 rfl) ?_
  refine lv_iconst (v := 3) C.1.1.1 C.1.1.2.1 dL_law_712 (by decide) ?_
  refine lv_iadd C.1.1.1 C.1.1.2.1 dL_law_713 ?_
  refine va_sld C.1.1.1 C.1.1.2.1 C.2.2.1 C.2.2.2.1 (Nat.not_le.mpr C.2.2.2.1) w.2.2.2.2 (lin hL hi 3 (by decide)) dL_law_714 ?_
  refine y_calli C.2.1 w.2.2.1 w.2.2.2.1 w.2.2.2.2 C.2.2.2.2.2.1 [.int (xs (nI i + 1).toNatClampNeg), .int (xs (nI i + 2).toNatClampNeg), .int (xs (nI i + 3).toNatClampNeg)] (c_X8_ahead h) kv_X8_ahead kl_33 (va_recv C.2.1.2.1 w.2.2.1 kc_X8.2.1 (wsM0 gM M)) rfl hl.1 (Nat.le_of_ble_eq_true rfl) ⟨Nat.le_of_ble_eq_true rfl, Nat.le_of_ble_eq_true rfl⟩ ⟨Nat.le_refl _, Nat.le_refl _⟩ dL_law_715 (fun r1 M1 H1 locs1 h hP1 hD1 hk1 hS1 => ?_)
  obtain ⟨e2, hrel⟩ := h
  have w := LW.stepM C w hP1 hD1 hk1 hS1
  generalize H1 = H, locs1 = locs at w ⊢
  refine lv_icmp_eq (tgt := 1577) C.1.1.1 C.1.1.2.1 dL_law_718 (by decide) (fun _ => ?_) (fun hc => absurd e2 hc)
  exact hn _ _ _ _ _ hrel w hl
set_option maxHeartbeats 4000000 in
set_option maxRecDepth 100000 in
theorem law_17 {H : Heap} {locs : List Loc} {ls : Array Slot} {i : Nat} (hO : op_glow Rel) (C : LC p s m c b L xs gX gM) (hL : L ≤ 320) (hi : i + 5 ≤ L) (hn : ∀ (X M : Mem) (H : Heap) (locs : List Loc) (ls : Array Slot), Rel X M → LW s gX gM X M H locs → lv_has ls 4 [(0, .ref b), (1, .ref (ga gX 0)), (2, .ref (ga gM 0)), (3, .int (nI i))] → W p l e room_1 s m #[Value.ref b] below meth c H locs 600000 7302250 (lw_Z below #[Value.ref b] s) (F0 m 1577 ls [])) (hR : Rel X M) (w : LW s gX gM X M H locs) (hl : lv_has ls 4 [(0, .ref b), (1, .ref (ga gX 0)), (2, .ref (ga gM 0)), (3, .int (nI i))]) : W p l e room_1 s m #[Value.ref b] below meth c H locs 600000 7302250 (lw_Z below #[Value.ref b] s) (F0 m 723 ls []) := by
  have h := hO X M (xs (nI i + 1).toNatClampNeg) (xs (nI i + 2).toNatClampNeg) hR
  refine lv_aload_n C.1.1.1 C.1.1.2.1 dL_law_723 rfl (lv_at hl 1 rfl) ?_
  refine lv_aload_n C.1.1.1 C.1.1.2.1 dL_law_724 rfl (lv_at hl 0 rfl) ?_
  refine lv_iload_n C.1.1.1 C.1.1.2.1 dL_law_725 rfl (lv_at hl 3 rfl) ?_
  refine lv_iconst (v := 1) C.1.1.1 C.1.1.2.1 dL_law_726 (by decide) ?_
  refine lv_iadd C.1.1.1 C.1.1.2.1 dL_law_727 ?_
  refine va_sld C.1.1.1 C.1.1.2.1 C.2.2.1 C.2.2.2.1 (Nat.not_le.mpr C.2.2.2.1) w.2.2.2.2 (lin hL hi 1 (by decide)) dL_law_728 ?_
  refine lv_aload_n C.1.1.1 C.1.1.2.1 dL_law_729 rfl (lv_at hl 0 rfl) ?_
  refine lv_iload_n C.1.1.1 C.1.1.2.1 dL_law_730 rfl (lv_at hl 3 rfl) ?_
  refine lv_iconst (v := 2) C.1.1.1 C.1.1.2.1 dL_law_731 (by decide) ?_
  refine lv_iadd C.1.1.1 C.1.1.2.1 dL_law_732 ?_
  refine va_sld C.1.1.1 C.1.1.2.1 C.2.2.1 C.2.2.2.1 (Nat.not_le.mpr C.2.2.2.1) w.2.2.2.2 (lin hL hi 2 (by decide)) dL_law_733 ?_
  refine y_calli C.1 w.1 w.2.1 w.2.2.2.2 C.2.2.2.2.1 [.int (xs (nI i + 1).toNatClampNeg), .int (xs (nI i + 2).toNatClampNeg)] (c_X7_glow h) kv_X7_glow kl_34 (va_recv C.1.2.1 w.1 kc_X7.2.1 (wsX0 gX X)) rfl hl.1 (Nat.le_of_ble_eq_true rfl) ⟨Nat.le_of_ble_eq_true rfl, Nat.le_of_ble_eq_true rfl⟩ ⟨Nat.le_refl _, Nat.le_refl _⟩ dL_law_734 (fun r X1 H1 locs1 h hP1 hD1 hk1 hS1 => ?_)
  have w := LW.stepX C w hP1 hD1 hk1 hS1
  generalize H1 = H, locs1 = locs at w ⊢
  refine lv_aload_n C.1.1.1 C.1.1.2.1 dL_law_737 rfl (lv_at hl 2 rfl) ?_
  refine lv_aload_n C.1.1.1 C.1.1.2.1 dL_law_738 rfl (lv_at hl 0 rfl) ?_
  refine lv_iload_n C.1.1.1 C.1.1.2.1 dL_law_739 rfl (lv_at hl 3 rfl) ?_
  refine lv_iconst (v := 1) C.1.1.1 C.1.1.2.1 dL_law_740 (by decide) ?_
  refine lv_iadd C.1.1.1 C.1.1.2.1 dL_law_741 ?_
  refine va_sld C.1.1.1 C.1.1.2.1 C.2.2.1 C.2.2.2.1 (Nat.not_le.mpr C.2.2.2.1) w.2.2.2.2 (lin hL hi 1 (by decide)) dL_law_742 ?_
  refine lv_aload_n C.1.1.1 C.1.1.2.1 dL_law_743 rfl (lv_at hl 0 rfl) ?_
  refine lv_iload_n C.1.1.1 C.1.1.2.1 dL_law_744 rfl (lv_at hl 3 rfl) ?_
  refine lv_iconst (v := 2) C.1.1.1 C.1.1.2.1 dL_law_745 (by decide) ?_
  refine lv_iadd C.1.1.1 C.1.1.2.1 dL_law_746 ?_
  refine va_sld C.1.1.1 C.1.1.2.1 C.2.2.1 C.2.2.2.1 (Nat.not_le.mpr C.2.2.2.1) w.2.2.2.2 (lin hL hi 2 (by decide)) dL_law_747 ?_
  refine y_calli C.2.1 w.2.2.1 w.2.2.2.1 w.2.2.2.2 C.2.2.2.2.2.1 [.int (xs (nI i + 1).toNatClampNeg), .int (xs (nI i + 2).toNatClampNeg)] (c_X8_glow h) kv_X8_glow kl_35 (va_recv C.2.1.2.1 w.2.2.1 kc_X8.2.1 (wsM0 gM M)) rfl hl.1 (Nat.le_of_ble_eq_true rfl) ⟨Nat.le_of_ble_eq_true rfl, Nat.le_of_ble_eq_true rfl⟩ ⟨Nat.le_refl _, Nat.le_refl _⟩ dL_law_748 (fun r1 M1 H1 locs1 h hP1 hD1 hk1 hS1 => ?_)
  obtain ⟨e2, hrel⟩ := h
  have w := LW.stepM C w hP1 hD1 hk1 hS1
  generalize H1 = H, locs1 = locs at w ⊢
  refine lv_icmp_eq (tgt := 1577) C.1.1.1 C.1.1.2.1 dL_law_751 (by decide) (fun _ => ?_) (fun hc => absurd e2 hc)
  exact hn _ _ _ _ _ hrel w hl
set_option maxHeartbeats 4000000 in
set_option maxRecDepth 100000 in
theorem law_18 {H : Heap} {locs : List Loc} {ls : Array Slot} {i : Nat} (hO : op_caught Rel) (C : LC p s m c b L xs gX gM) (hL : L ≤ 320) (hi : i + 5 ≤ L) (hn : ∀ (X M : Mem) (H : Heap) (locs : List Loc) (ls : Array Slot), Rel X M → LW s gX gM X M H locs → lv_has ls 4 [(0, .ref b), (1, .ref (ga gX 0)), (2, .ref (ga gM 0)), (3, .int (nI i))] → W p l e room_1 s m #[Value.ref b] below meth c H locs 600000 7302250 (lw_Z below #[Value.ref b] s) (F0 m 1577 ls [])) (hR : Rel X M) (w : LW s gX gM X M H locs) (hl : lv_has ls 4 [(0, .ref b), (1, .ref (ga gX 0)), (2, .ref (ga gM 0)), (3, .int (nI i))]) : W p l e room_1 s m #[Value.ref b] below meth c H locs 600000 7302250 (lw_Z below #[Value.ref b] s) (F0 m 756 ls []) := by
  have h := hO X M (xs (nI i + 1).toNatClampNeg) hR
  refine lv_aload_n C.1.1.1 C.1.1.2.1 dL_law_756 rfl (lv_at hl 1 rfl) ?_
  refine lv_aload_n C.1.1.1 C.1.1.2.1 dL_law_757 rfl (lv_at hl 0 rfl) ?_
  refine lv_iload_n C.1.1.1 C.1.1.2.1 dL_law_758 rfl (lv_at hl 3 rfl) ?_
  refine lv_iconst (v := 1) C.1.1.1 C.1.1.2.1 dL_law_759 (by decide) ?_
  refine lv_iadd C.1.1.1 C.1.1.2.1 dL_law_760 ?_
  refine va_sld C.1.1.1 C.1.1.2.1 C.2.2.1 C.2.2.2.1 (Nat.not_le.mpr C.2.2.2.1) w.2.2.2.2 (lin hL hi 1 (by decide)) dL_law_761 ?_
  refine y_calli C.1 w.1 w.2.1 w.2.2.2.2 C.2.2.2.2.1 [.int (xs (nI i + 1).toNatClampNeg)] (c_X7_caught h) kv_X7_caught kl_36 (va_recv C.1.2.1 w.1 kc_X7.2.1 (wsX0 gX X)) rfl hl.1 (Nat.le_of_ble_eq_true rfl) ⟨Nat.le_of_ble_eq_true rfl, Nat.le_of_ble_eq_true rfl⟩ ⟨Nat.le_refl _, Nat.le_refl _⟩ dL_law_762 (fun r X1 H1 locs1 h hP1 hD1 hk1 hS1 => ?_)
  have w := LW.stepX C w hP1 hD1 hk1 hS1
  generalize H1 = H, locs1 = locs at w ⊢
  refine lv_aload_n C.1.1.1 C.1.1.2.1 dL_law_765 rfl (lv_at hl 2 rfl) ?_
  refine lv_aload_n C.1.1.1 C.1.1.2.1 dL_law_766 rfl (lv_at hl 0 rfl) ?_
  refine lv_iload_n C.1.1.1 C.1.1.2.1 dL_law_767 rfl (lv_at hl 3 rfl) ?_
  refine lv_iconst (v := 1) C.1.1.1 C.1.1.2.1 dL_law_768 (by decide) ?_
  refine lv_iadd C.1.1.1 C.1.1.2.1 dL_law_769 ?_
  refine va_sld C.1.1.1 C.1.1.2.1 C.2.2.1 C.2.2.2.1 (Nat.not_le.mpr C.2.2.2.1) w.2.2.2.2 (lin hL hi 1 (by decide)) dL_law_770 ?_
  refine y_calli C.2.1 w.2.2.1 w.2.2.2.1 w.2.2.2.2 C.2.2.2.2.2.1 [.int (xs (nI i + 1).toNatClampNeg)] (c_X8_caught h) kv_X8_caught kl_37 (va_recv C.2.1.2.1 w.2.2.1 kc_X8.2.1 (wsM0 gM M)) rfl hl.1 (Nat.le_of_ble_eq_true rfl) ⟨Nat.le_of_ble_eq_true rfl, Nat.le_of_ble_eq_true rfl⟩ ⟨Nat.le_refl _, Nat.le_refl _⟩ dL_law_771 (fun r1 M1 H1 locs1 h hP1 hD1 hk1 hS1 => ?_)
  obtain ⟨e2, hrel⟩ := h
  have w := LW.stepM C w hP1 hD1 hk1 hS1
  generalize H1 = H, locs1 = locs at w ⊢
  refine lv_icmp_eq (tgt := 1577) C.1.1.1 C.1.1.2.1 dL_law_774 (by decide) (fun _ => ?_) (fun hc => absurd e2 hc)
  exact hn _ _ _ _ _ hrel w hl
set_option maxHeartbeats 4000000 in
set_option maxRecDepth 100000 in
theorem law_19 {H : Heap} {locs : List Loc} {ls : Array Slot} {i : Nat} (hO : op_best Rel) (C : LC p s m c b L xs gX gM) (hL : L ≤ 320) (hi : i + 5 ≤ L) (hn : ∀ (X M : Mem) (H : Heap) (locs : List Loc) (ls : Array Slot), Rel X M → LW s gX gM X M H locs → lv_has ls 4 [(0, .ref b), (1, .ref (ga gX 0)), (2, .ref (ga gM 0)), (3, .int (nI i))] → W p l e room_1 s m #[Value.ref b] below meth c H locs 600000 7302250 (lw_Z below #[Value.ref b] s) (F0 m 1577 ls [])) (hR : Rel X M) (w : LW s gX gM X M H locs) (hl : lv_has ls 4 [(0, .ref b), (1, .ref (ga gX 0)), (2, .ref (ga gM 0)), (3, .int (nI i))]) : W p l e room_1 s m #[Value.ref b] below meth c H locs 600000 7302250 (lw_Z below #[Value.ref b] s) (F0 m 779 ls []) := by
  have h := hO X M (xs (nI i + 1).toNatClampNeg) (xs (nI i + 2).toNatClampNeg) (xs (nI i + 3).toNatClampNeg) hR
  refine lv_aload_n C.1.1.1 C.1.1.2.1 dL_law_779 rfl (lv_at hl 1 rfl) ?_
  refine lv_aload_n C.1.1.1 C.1.1.2.1 dL_law_780 rfl (lv_at hl 0 rfl) ?_
  refine lv_iload_n C.1.1.1 C.1.1.2.1 dL_law_781 rfl (lv_at hl 3 rfl) ?_
  refine lv_iconst (v := 1) C.1.1.1 C.1.1.2.1 dL_law_782 (by decide) ?_
  refine lv_iadd C.1.1.1 C.1.1.2.1 dL_law_783 ?_
  refine va_sld C.1.1.1 C.1.1.2.1 C.2.2.1 C.2.2.2.1 (Nat.not_le.mpr C.2.2.2.1) w.2.2.2.2 (lin hL hi 1 (by decide)) dL_law_784 ?_
  refine lv_aload_n C.1.1.1 C.1.1.2.1 dL_law_785 rfl (lv_at hl 0 rfl) ?_
  refine lv_iload_n C.1.1.1 C.1.1.2.1 dL_law_786 rfl (lv_at hl 3 rfl) ?_
  refine lv_iconst (v := 2) C.1.1.1 C.1.1.2.1 dL_law_787 (by decide) ?_
  refine lv_iadd C.1.1.1 C.1.1.2.1 dL_law_788 ?_
  refine va_sld C.1.1.1 C.1.1.2.1 C.2.2.1 C.2.2.2.1 (Nat.not_le.mpr C.2.2.2.1) w.2.2.2.2 (lin hL hi 2 (by decide)) dL_law_789 ?_
  refine lv_aload_n C.1.1.1 C.1.1.2.1 dL_law_790 rfl (lv_at hl 0 rfl) ?_
  refine lv_iload_n C.1.1.1 C.1.1.2.1 dL_law_791 rfl (lv_at hl 3 rfl) ?_
  refine lv_iconst (v := 3) C.1.1.1 C.1.1.2.1 dL_law_792 (by decide) ?_
  refine lv_iadd C.1.1.1 C.1.1.2.1 dL_law_793 ?_
  refine va_sld C.1.1.1 C.1.1.2.1 C.2.2.1 C.2.2.2.1 (Nat.not_le.mpr C.2.2.2.1) w.2.2.2.2 (lin hL hi 3 (by decide)) dL_law_794 ?_
  refine y_calli C.1 w.1 w.2.1 w.2.2.2.2 C.2.2.2.2.1 [.int (xs (nI i + 1).toNatClampNeg), .int (xs (nI i + 2).toNatClampNeg), .int (xs (nI i + 3).toNatClampNeg)] (c_X7_best h) kv_X7_best kl_38 (va_recv C.1.2.1 w.1 kc_X7.2.1 (wsX0 gX X)) rfl hl.1 (Nat.le_of_ble_eq_true rfl) ⟨Nat.le_of_ble_eq_true rfl, Nat.le_of_ble_eq_true rfl⟩ ⟨Nat.le_refl _, Nat.le_refl _⟩ dL_law_795 (fun r X1 H1 locs1 h hP1 hD1 hk1 hS1 => ?_)
  have w := LW.stepX C w hP1 hD1 hk1 hS1
  generalize H1 = H, locs1 = locs at w ⊢
  refine lv_aload_n C.1.1.1 C.1.1.2.1 dL_law_798 rfl (lv_at hl 2 rfl) ?_
  refine lv_aload_n C.1.1.1 C.1.1.2.1 dL_law_799 rfl (lv_at hl 0 rfl) ?_
  refine lv_iload_n C.1.1.1 C.1.1.2.1 dL_law_800 rfl (lv_at hl 3 rfl) ?_
  refine lv_iconst (v := 1) C.1.1.1 C.1.1.2.1 dL_law_801 (by decide) ?_
  refine lv_iadd C.1.1.1 C.1.1.2.1 dL_law_802 ?_
  refine va_sld C.1.1.1 C.1.1.2.1 C.2.2.1 C.2.2.2.1 (Nat.not_le.mpr C.2.2.2.1) w.2.2.2.2 (lin hL hi 1 (by decide)) dL_law_803 ?_
  refine lv_aload_n C.1.1.1 C.1.1.2.1 dL_law_804 rfl (lv_at hl 0 rfl) ?_
  refine lv_iload_n C.1.1.1 C.1.1.2.1 dL_law_805 rfl (lv_at hl 3 rfl) ?_
  refine lv_iconst (v := 2) C.1.1.1 C.1.1.2.1 dL_law_806 (by decide) ?_
  refine lv_iadd C.1.1.1 C.1.1.2.1 dL_law_807 ?_
  refine va_sld C.1.1.1 C.1.1.2.1 C.2.2.1 C.2.2.2.1 (Nat.not_le.mpr C.2.2.2.1) w.2.2.2.2 (lin hL hi 2 (by decide)) dL_law_808 ?_
  refine lv_aload_n C.1.1.1 C.1.1.2.1 dL_law_809 rfl (lv_at hl 0 rfl) ?_
  refine lv_iload_n C.1.1.1 C.1.1.2.1 dL_law_810 rfl (lv_at hl 3 rfl) ?_
  refine lv_iconst (v := 3) C.1.1.1 C.1.1.2.1 dL_law_811 (by decide) ?_
  refine lv_iadd C.1.1.1 C.1.1.2.1 dL_law_812 ?_
  refine va_sld C.1.1.1 C.1.1.2.1 C.2.2.1 C.2.2.2.1 (Nat.not_le.mpr C.2.2.2.1) w.2.2.2.2 (lin hL hi 3 (by decide)) dL_law_813 ?_
  refine y_calli C.2.1 w.2.2.1 w.2.2.2.1 w.2.2.2.2 C.2.2.2.2.2.1 [.int (xs (nI i + 1).toNatClampNeg), .int (xs (nI i + 2).toNatClampNeg), .int (xs (nI i + 3).toNatClampNeg)] (c_X8_best h) kv_X8_best kl_39 (va_recv C.2.1.2.1 w.2.2.1 kc_X8.2.1 (wsM0 gM M)) rfl hl.1 (Nat.le_of_ble_eq_true rfl) ⟨Nat.le_of_ble_eq_true rfl, Nat.le_of_ble_eq_true rfl⟩ ⟨Nat.le_refl _, Nat.le_refl _⟩ dL_law_814 (fun r1 M1 H1 locs1 h hP1 hD1 hk1 hS1 => ?_)
  obtain ⟨e2, hrel⟩ := h
  have w := LW.stepM C w hP1 hD1 hk1 hS1
  generalize H1 = H, locs1 = locs at w ⊢
  refine lv_icmp_eq (tgt := 1577) C.1.1.1 C.1.1.2.1 dL_law_817 (by decide) (fun _ => ?_) (fun hc => absurd e2 hc)
  exact hn _ _ _ _ _ hrel w hl
set_option maxHeartbeats 4000000 in
set_option maxRecDepth 100000 in
theorem law_20 {H : Heap} {locs : List Loc} {ls : Array Slot} {i : Nat} (hO : op_ripen Rel) (C : LC p s m c b L xs gX gM) (hL : L ≤ 320) (hi : i + 5 ≤ L) (hn : ∀ (X M : Mem) (H : Heap) (locs : List Loc) (ls : Array Slot), Rel X M → LW s gX gM X M H locs → lv_has ls 4 [(0, .ref b), (1, .ref (ga gX 0)), (2, .ref (ga gM 0)), (3, .int (nI i))] → W p l e room_1 s m #[Value.ref b] below meth c H locs 600000 7302250 (lw_Z below #[Value.ref b] s) (F0 m 1577 ls [])) (hR : Rel X M) (w : LW s gX gM X M H locs) (hl : lv_has ls 4 [(0, .ref b), (1, .ref (ga gX 0)), (2, .ref (ga gM 0)), (3, .int (nI i))]) : W p l e room_1 s m #[Value.ref b] below meth c H locs 600000 7302250 (lw_Z below #[Value.ref b] s) (F0 m 822 ls []) := by
  have h := hO X M (xs (nI i + 1).toNatClampNeg) (xs (nI i + 2).toNatClampNeg) (xs (nI i + 3).toNatClampNeg) hR
  refine lv_aload_n C.1.1.1 C.1.1.2.1 dL_law_822 rfl (lv_at hl 1 rfl) ?_
  refine lv_aload_n C.1.1.1 C.1.1.2.1 dL_law_823 rfl (lv_at hl 0 rfl) ?_
  refine lv_iload_n C.1.1.1 C.1.1.2.1 dL_law_824 rfl (lv_at hl 3 rfl) ?_
  refine lv_iconst (v := 1) C.1.1.1 C.1.1.2.1 dL_law_825 (by decide) ?_
  refine lv_iadd C.1.1.1 C.1.1.2.1 dL_law_826 ?_
  refine va_sld C.1.1.1 C.1.1.2.1 C.2.2.1 C.2.2.2.1 (Nat.not_le.mpr C.2.2.2.1) w.2.2.2.2 (lin hL hi 1 (by decide)) dL_law_827 ?_
  refine lv_aload_n C.1.1.1 C.1.1.2.1 dL_law_828 rfl (lv_at hl 0 rfl) ?_
  refine lv_iload_n C.1.1.1 C.1.1.2.1 dL_law_829 rfl (lv_at hl 3 rfl) ?_
  refine lv_iconst (v := 2) C.1.1.1 C.1.1.2.1 dL_law_830 (by decide) ?_
  refine lv_iadd C.1.1.1 C.1.1.2.1 dL_law_831 ?_
  refine va_sld C.1.1.1 C.1.1.2.1 C.2.2.1 C.2.2.2.1 (Nat.not_le.mpr C.2.2.2.1) w.2.2.2.2 (lin hL hi 2 (by decide)) dL_law_832 ?_
  refine lv_aload_n C.1.1.1 C.1.1.2.1 dL_law_833 rfl (lv_at hl 0 rfl) ?_
  refine lv_iload_n C.1.1.1 C.1.1.2.1 dL_law_834 rfl (lv_at hl 3 rfl) ?_
  refine lv_iconst (v := 3) C.1.1.1 C.1.1.2.1 dL_law_835 (by decide) ?_
  refine lv_iadd C.1.1.1 C.1.1.2.1 dL_law_836 ?_
  refine va_sld C.1.1.1 C.1.1.2.1 C.2.2.1 C.2.2.2.1 (Nat.not_le.mpr C.2.2.2.1) w.2.2.2.2 (lin hL hi 3 (by decide)) dL_law_837 ?_
  refine y_calli C.1 w.1 w.2.1 w.2.2.2.2 C.2.2.2.2.1 [.int (xs (nI i + 1).toNatClampNeg), .int (xs (nI i + 2).toNatClampNeg), .int (xs (nI i + 3).toNatClampNeg)] (c_X7_ripen h) kv_X7_ripen kl_40 (va_recv C.1.2.1 w.1 kc_X7.2.1 (wsX0 gX X)) rfl hl.1 (Nat.le_of_ble_eq_true rfl) ⟨Nat.le_of_ble_eq_true rfl, Nat.le_of_ble_eq_true rfl⟩ ⟨Nat.le_refl _, Nat.le_refl _⟩ dL_law_838 (fun r X1 H1 locs1 h hP1 hD1 hk1 hS1 => ?_)
  have w := LW.stepX C w hP1 hD1 hk1 hS1
  generalize H1 = H, locs1 = locs at w ⊢
  refine lv_aload_n C.1.1.1 C.1.1.2.1 dL_law_841 rfl (lv_at hl 2 rfl) ?_
  refine lv_aload_n C.1.1.1 C.1.1.2.1 dL_law_842 rfl (lv_at hl 0 rfl) ?_
  refine lv_iload_n C.1.1.1 C.1.1.2.1 dL_law_843 rfl (lv_at hl 3 rfl) ?_
  refine lv_iconst (v := 1) C.1.1.1 C.1.1.2.1 dL_law_844 (by decide) ?_
  refine lv_iadd C.1.1.1 C.1.1.2.1 dL_law_845 ?_
  refine va_sld C.1.1.1 C.1.1.2.1 C.2.2.1 C.2.2.2.1 (Nat.not_le.mpr C.2.2.2.1) w.2.2.2.2 (lin hL hi 1 (by decide)) dL_law_846 ?_
  refine lv_aload_n C.1.1.1 C.1.1.2.1 dL_law_847 rfl (lv_at hl 0 rfl) ?_
  refine lv_iload_n C.1.1.1 C.1.1.2.1 dL_law_848 rfl (lv_at hl 3 rfl) ?_
  refine lv_iconst (v := 2) C.1.1.1 C.1.1.2.1 dL_law_849 (by decide) ?_
  refine lv_iadd C.1.1.1 C.1.1.2.1 dL_law_850 ?_
  refine va_sld C.1.1.1 C.1.1.2.1 C.2.2.1 C.2.2.2.1 (Nat.not_le.mpr C.2.2.2.1) w.2.2.2.2 (lin hL hi 2 (by decide)) dL_law_851 ?_
  refine lv_aload_n C.1.1.1 C.1.1.2.1 dL_law_852 rfl (lv_at hl 0 rfl) ?_
  refine lv_iload_n C.1.1.1 C.1.1.2.1 dL_law_853 rfl (lv_at hl 3 rfl) ?_
  refine lv_iconst (v := 3) C.1.1.1 C.1.1.2.1 dL_law_854 (by decide) ?_
  refine lv_iadd C.1.1.1 C.1.1.2.1 dL_law_855 ?_
  refine va_sld C.1.1.1 C.1.1.2.1 C.2.2.1 C.2.2.2.1 (Nat.not_le.mpr C.2.2.2.1) w.2.2.2.2 (lin hL hi 3 (by decide)) dL_law_856 ?_
  refine y_calli C.2.1 w.2.2.1 w.2.2.2.1 w.2.2.2.2 C.2.2.2.2.2.1 [.int (xs (nI i + 1).toNatClampNeg), .int (xs (nI i + 2).toNatClampNeg), .int (xs (nI i + 3).toNatClampNeg)] (c_X8_ripen h) kv_X8_ripen kl_41 (va_recv C.2.1.2.1 w.2.2.1 kc_X8.2.1 (wsM0 gM M)) rfl hl.1 (Nat.le_of_ble_eq_true rfl) ⟨Nat.le_of_ble_eq_true rfl, Nat.le_of_ble_eq_true rfl⟩ ⟨Nat.le_refl _, Nat.le_refl _⟩ dL_law_857 (fun r1 M1 H1 locs1 h hP1 hD1 hk1 hS1 => ?_)
  obtain ⟨e2, hrel⟩ := h
  have w := LW.stepM C w hP1 hD1 hk1 hS1
  generalize H1 = H, locs1 = locs at w ⊢
  refine lv_icmp_eq (tgt := 1577) C.1.1.1 C.1.1.2.1 dL_law_860 (by decide) (fun _ => ?_) (fun hc => absurd e2 hc)
  exact hn _ _ _ _ _ hrel w hl
set_option maxHeartbeats 4000000 in
set_option maxRecDepth 100000 in
theorem law_21 {H : Heap} {locs : List Loc} {ls : Array Slot} {i : Nat} (hO : op_swap Rel) (C : LC p s m c b L xs gX gM) (hL : L ≤ 320) (hi : i + 5 ≤ L) (hn : ∀ (X M : Mem) (H : Heap) (locs : List Loc) (ls : Array Slot), Rel X M → LW s gX gM X M H locs → lv_has ls 4 [(0, .ref b), (1, .ref (ga gX 0)), (2, .ref (ga gM 0)), (3, .int (nI i))] → W p l e room_1 s m #[Value.ref b] below meth c H locs 600000 7302250 (lw_Z below #[Value.ref b] s) (F0 m 1577 ls [])) (hR : Rel X M) (w : LW s gX gM X M H locs) (hl : lv_has ls 4 [(0, .ref b), (1, .ref (ga gX 0)), (2, .ref (ga gM 0)), (3, .int (nI i))]) : W p l e room_1 s m #[Value.ref b] below meth c H locs 600000 7302250 (lw_Z below #[Value.ref b] s) (F0 m 865 ls []) := by
  have h := hO X M (xs (nI i + 1).toNatClampNeg) (xs (nI i + 2).toNatClampNeg) hR
  refine lv_aload_n C.1.1.1 C.1.1.2.1 dL_law_865 rfl (lv_at hl 1 rfl) ?_
  refine lv_aload_n C.1.1.1 C.1.1.2.1 dL_law_866 rfl (lv_at hl 0 rfl) ?_
  refine lv_iload_n C.1.1.1 C.1.1.2.1 dL_law_867 rfl (lv_at hl 3 rfl) ?_
  refine lv_iconst (v := 1) C.1.1.1 C.1.1.2.1 dL_law_868 (by decide) ?_
  refine lv_iadd C.1.1.1 C.1.1.2.1 dL_law_869 ?_
  refine va_sld C.1.1.1 C.1.1.2.1 C.2.2.1 C.2.2.2.1 (Nat.not_le.mpr C.2.2.2.1) w.2.2.2.2 (lin hL hi 1 (by decide)) dL_law_870 ?_
  refine lv_aload_n C.1.1.1 C.1.1.2.1 dL_law_871 rfl (lv_at hl 0 rfl) ?_
  refine lv_iload_n C.1.1.1 C.1.1.2.1 dL_law_872 rfl (lv_at hl 3 rfl) ?_
  refine lv_iconst (v := 2) C.1.1.1 C.1.1.2.1 dL_law_873 (by decide) ?_
  refine lv_iadd C.1.1.1 C.1.1.2.1 dL_law_874 ?_
  refine va_sld C.1.1.1 C.1.1.2.1 C.2.2.1 C.2.2.2.1 (Nat.not_le.mpr C.2.2.2.1) w.2.2.2.2 (lin hL hi 2 (by decide)) dL_law_875 ?_
  refine y_calli C.1 w.1 w.2.1 w.2.2.2.2 C.2.2.2.2.1 [.int (xs (nI i + 1).toNatClampNeg), .int (xs (nI i + 2).toNatClampNeg)] (c_X7_swap h) kv_X7_swap kl_42 (va_recv C.1.2.1 w.1 kc_X7.2.1 (wsX0 gX X)) rfl hl.1 (Nat.le_of_ble_eq_true rfl) ⟨Nat.le_of_ble_eq_true rfl, Nat.le_of_ble_eq_true rfl⟩ ⟨Nat.le_refl _, Nat.le_refl _⟩ dL_law_876 (fun r X1 H1 locs1 h hP1 hD1 hk1 hS1 => ?_)
  have w := LW.stepX C w hP1 hD1 hk1 hS1
  generalize H1 = H, locs1 = locs at w ⊢
  refine lv_aload_n C.1.1.1 C.1.1.2.1 dL_law_879 rfl (lv_at hl 2 rfl) ?_
  refine lv_aload_n C.1.1.1 C.1.1.2.1 dL_law_880 rfl (lv_at hl 0 rfl) ?_
  refine lv_iload_n C.1.1.1 C.1.1.2.1 dL_law_881 rfl (lv_at hl 3 rfl) ?_
  refine lv_iconst (v := 1) C.1.1.1 C.1.1.2.1 dL_law_882 (by decide) ?_
  refine lv_iadd C.1.1.1 C.1.1.2.1 dL_law_883 ?_
  refine va_sld C.1.1.1 C.1.1.2.1 C.2.2.1 C.2.2.2.1 (Nat.not_le.mpr C.2.2.2.1) w.2.2.2.2 (lin hL hi 1 (by decide)) dL_law_884 ?_
  refine lv_aload_n C.1.1.1 C.1.1.2.1 dL_law_885 rfl (lv_at hl 0 rfl) ?_
  refine lv_iload_n C.1.1.1 C.1.1.2.1 dL_law_886 rfl (lv_at hl 3 rfl) ?_
  refine lv_iconst (v := 2) C.1.1.1 C.1.1.2.1 dL_law_887 (by decide) ?_
  refine lv_iadd C.1.1.1 C.1.1.2.1 dL_law_888 ?_
  refine va_sld C.1.1.1 C.1.1.2.1 C.2.2.1 C.2.2.2.1 (Nat.not_le.mpr C.2.2.2.1) w.2.2.2.2 (lin hL hi 2 (by decide)) dL_law_889 ?_
  refine y_calli C.2.1 w.2.2.1 w.2.2.2.1 w.2.2.2.2 C.2.2.2.2.2.1 [.int (xs (nI i + 1).toNatClampNeg), .int (xs (nI i + 2).toNatClampNeg)] (c_X8_swap h) kv_X8_swap kl_43 (va_recv C.2.1.2.1 w.2.2.1 kc_X8.2.1 (wsM0 gM M)) rfl hl.1 (Nat.le_of_ble_eq_true rfl) ⟨Nat.le_of_ble_eq_true rfl, Nat.le_of_ble_eq_true rfl⟩ ⟨Nat.le_refl _, Nat.le_refl _⟩ dL_law_890 (fun r1 M1 H1 locs1 h hP1 hD1 hk1 hS1 => ?_)
  obtain ⟨e2, hrel⟩ := h
  have w := LW.stepM C w hP1 hD1 hk1 hS1
  generalize H1 = H, locs1 = locs at w ⊢
  refine lv_icmp_eq (tgt := 1577) C.1.1.1 C.1.1.2.1 dL_law_893 (by decide) (fun _ => ?_) (fun hc => absurd e2 hc)
  exact hn _ _ _ _ _ hrel w hl
set_option maxHeartbeats 4000000 in
set_option maxRecDepth 100000 in
theorem law_22 {H : Heap} {locs : List Loc} {ls : Array Slot} {i : Nat} (hO : op_round Rel) (C : LC p s m c b L xs gX gM) (hL : L ≤ 320) (hi : i + 5 ≤ L) (hn : ∀ (X M : Mem) (H : Heap) (locs : List Loc) (ls : Array Slot), Rel X M → LW s gX gM X M H locs → lv_has ls 4 [(0, .ref b), (1, .ref (ga gX 0)), (2, .ref (ga gM 0)), (3, .int (nI i))] → W p l e room_1 s m #[Value.ref b] below meth c H locs 600000 7302250 (lw_Z below #[Value.ref b] s) (F0 m 1577 ls [])) (hR : Rel X M) (w : LW s gX gM X M H locs) (hl : lv_has ls 4 [(0, .ref b), (1, .ref (ga gX 0)), (2, .ref (ga gM 0)), (3, .int (nI i))]) : W p l e room_1 s m #[Value.ref b] below meth c H locs 600000 7302250 (lw_Z below #[Value.ref b] s) (F0 m 898 ls []) := by
  have h := hO X M (xs (nI i + 1).toNatClampNeg) (xs (nI i + 2).toNatClampNeg) (xs (nI i + 3).toNatClampNeg) hR
  refine lv_aload_n C.1.1.1 C.1.1.2.1 dL_law_898 rfl (lv_at hl 1 rfl) ?_
  refine lv_aload_n C.1.1.1 C.1.1.2.1 dL_law_899 rfl (lv_at hl 0 rfl) ?_
  refine lv_iload_n C.1.1.1 C.1.1.2.1 dL_law_900 rfl (lv_at hl 3 rfl) ?_
  refine lv_iconst (v := 1) C.1.1.1 C.1.1.2.1 dL_law_901 (by decide) ?_
  refine lv_iadd C.1.1.1 C.1.1.2.1 dL_law_902 ?_
  refine va_sld C.1.1.1 C.1.1.2.1 C.2.2.1 C.2.2.2.1 (Nat.not_le.mpr C.2.2.2.1) w.2.2.2.2 (lin hL hi 1 (by decide)) dL_law_903 ?_
  refine lv_aload_n C.1.1.1 C.1.1.2.1 dL_law_904 rfl (lv_at hl 0 rfl) ?_
  refine lv_iload_n C.1.1.1 C.1.1.2.1 dL_law_905 rfl (lv_at hl 3 rfl) ?_
  refine lv_iconst (v := 2) C.1.1.1 C.1.1.2.1 dL_law_906 (by decide) ?_
  refine lv_iadd C.1.1.1 C.1.1.2.1 dL_law_907 ?_
  refine va_sld C.1.1.1 C.1.1.2.1 C.2.2.1 C.2.2.2.1 (Nat.not_le.mpr C.2.2.2.1) w.2.2.2.2 (lin hL hi 2 (by decide)) dL_law_908 ?_
  refine lv_aload_n C.1.1.1 C.1.1.2.1 dL_law_909 rfl (lv_at hl 0 rfl) ?_
  refine lv_iload_n C.1.1.1 C.1.1.2.1 dL_law_910 rfl (lv_at hl 3 rfl) ?_
  refine lv_iconst (v := 3) C.1.1.1 C.1.1.2.1 dL_law_911 (by decide) ?_
  refine lv_iadd C.1.1.1 C.1.1.2.1 dL_law_912 ?_
  refine va_sld C.1.1.1 C.1.1.2.1 C.2.2.1 C.2.2.2.1 (Nat.not_le.mpr C.2.2.2.1) w.2.2.2.2 (lin hL hi 3 (by decide)) dL_law_913 ?_
  refine y_calli C.1 w.1 w.2.1 w.2.2.2.2 C.2.2.2.2.1 [.int (xs (nI i + 1).toNatClampNeg), .int (xs (nI i + 2).toNatClampNeg), .int (xs (nI i + 3).toNatClampNeg)] (c_X7_round h) kv_X7_round kl_44 (va_recv C.1.2.1 w.1 kc_X7.2.1 (wsX0 gX X)) rfl hl.1 (Nat.le_of_ble_eq_true rfl) ⟨Nat.le_of_ble_eq_true rfl, Nat.le_of_ble_eq_true rfl⟩ ⟨Nat.le_refl _, Nat.le_refl _⟩ dL_law_914 (fun r X1 H1 locs1 h hP1 hD1 hk1 hS1 => ?_)
  have w := LW.stepX C w hP1 hD1 hk1 hS1
  generalize H1 = H, locs1 = locs at w ⊢
  refine lv_aload_n C.1.1.1 C.1.1.2.1 dL_law_917 rfl (lv_at hl 2 rfl) ?_
  refine lv_aload_n C.1.1.1 C.1.1.2.1 dL_law_918 rfl (lv_at hl 0 rfl) ?_
  refine lv_iload_n C.1.1.1 C.1.1.2.1 dL_law_919 rfl (lv_at hl 3 rfl) ?_
  refine lv_iconst (v := 1) C.1.1.1 C.1.1.2.1 dL_law_920 (by decide) ?_
  refine lv_iadd C.1.1.1 C.1.1.2.1 dL_law_921 ?_
  refine va_sld C.1.1.1 C.1.1.2.1 C.2.2.1 C.2.2.2.1 (Nat.not_le.mpr C.2.2.2.1) w.2.2.2.2 (lin hL hi 1 (by decide)) dL_law_922 ?_
  refine lv_aload_n C.1.1.1 C.1.1.2.1 dL_law_923 rfl (lv_at hl 0 rfl) ?_
  refine lv_iload_n C.1.1.1 C.1.1.2.1 dL_law_924 rfl (lv_at hl 3 rfl) ?_
  refine lv_iconst (v := 2) C.1.1.1 C.1.1.2.1 dL_law_925 (by decide) ?_
  refine lv_iadd C.1.1.1 C.1.1.2.1 dL_law_926 ?_
  refine va_sld C.1.1.1 C.1.1.2.1 C.2.2.1 C.2.2.2.1 (Nat.not_le.mpr C.2.2.2.1) w.2.2.2.2 (lin hL hi 2 (by decide)) dL_law_927 ?_
  refine lv_aload_n C.1.1.1 C.1.1.2.1 dL_law_928 rfl (lv_at hl 0 rfl) ?_
  refine lv_iload_n C.1.1.1 C.1.1.2.1 dL_law_929 rfl (lv_at hl 3 rfl) ?_
  refine lv_iconst (v := 3) C.1.1.1 C.1.1.2.1 dL_law_930 (by decide) ?_
  refine lv_iadd C.1.1.1 C.1.1.2.1 dL_law_931 ?_
  refine va_sld C.1.1.1 C.1.1.2.1 C.2.2.1 C.2.2.2.1 (Nat.not_le.mpr C.2.2.2.1) w.2.2.2.2 (lin hL hi 3 (by decide)) dL_law_932 ?_
  refine y_calli C.2.1 w.2.2.1 w.2.2.2.1 w.2.2.2.2 C.2.2.2.2.2.1 [.int (xs (nI i + 1).toNatClampNeg), .int (xs (nI i + 2).toNatClampNeg), .int (xs (nI i + 3).toNatClampNeg)] (c_X8_round h) kv_X8_round kl_45 (va_recv C.2.1.2.1 w.2.2.1 kc_X8.2.1 (wsM0 gM M)) rfl hl.1 (Nat.le_of_ble_eq_true rfl) ⟨Nat.le_of_ble_eq_true rfl, Nat.le_of_ble_eq_true rfl⟩ ⟨Nat.le_refl _, Nat.le_refl _⟩ dL_law_933 (fun r1 M1 H1 locs1 h hP1 hD1 hk1 hS1 => ?_)
  obtain ⟨e2, hrel⟩ := h
  have w := LW.stepM C w hP1 hD1 hk1 hS1
  generalize H1 = H, locs1 = locs at w ⊢
  refine lv_icmp_eq (tgt := 1577) C.1.1.1 C.1.1.2.1 dL_law_936 (by decide) (fun _ => ?_) (fun hc => absurd e2 hc)
  exact hn _ _ _ _ _ hrel w hl
set_option maxHeartbeats 4000000 in
set_option maxRecDepth 100000 in
theorem law_23 {H : Heap} {locs : List Loc} {ls : Array Slot} {i : Nat} (hO : op_post Rel) (C : LC p s m c b L xs gX gM) (hL : L ≤ 320) (hi : i + 5 ≤ L) (hn : ∀ (X M : Mem) (H : Heap) (locs : List Loc) (ls : Array Slot), Rel X M → LW s gX gM X M H locs → lv_has ls 4 [(0, .ref b), (1, .ref (ga gX 0)), (2, .ref (ga gM 0)), (3, .int (nI i))] → W p l e room_1 s m #[Value.ref b] below meth c H locs 600000 7302250 (lw_Z below #[Value.ref b] s) (F0 m 1577 ls [])) (hR : Rel X M) (w : LW s gX gM X M H locs) (hl : lv_has ls 4 [(0, .ref b), (1, .ref (ga gX 0)), (2, .ref (ga gM 0)), (3, .int (nI i))]) : W p l e room_1 s m #[Value.ref b] below meth c H locs 600000 7302250 (lw_Z below #[Value.ref b] s) (F0 m 941 ls []) := by
  have h := hO X M (xs (nI i + 1).toNatClampNeg) (xs (nI i + 2).toNatClampNeg) (xs (nI i + 3).toNatClampNeg) hR
  refine lv_aload_n C.1.1.1 C.1.1.2.1 dL_law_941 rfl (lv_at hl 1 rfl) ?_
  refine lv_aload_n C.1.1.1 C.1.1.2.1 dL_law_942 rfl (lv_at hl 0 rfl) ?_
  refine lv_iload_n C.1.1.1 C.1.1.2.1 dL_law_943 rfl (lv_at hl 3 rfl) ?_
  refine lv_iconst (v := 1) C.1.1.1 C.1.1.2.1 dL_law_944 (by decide) ?_
  refine lv_iadd C.1.1.1 C.1.1.2.1 dL_law_945 ?_
  refine va_sld C.1.1.1 C.1.1.2.1 C.2.2.1 C.2.2.2.1 (Nat.not_le.mpr C.2.2.2.1) w.2.2.2.2 (lin hL hi 1 (by decide)) dL_law_946 ?_
  refine lv_aload_n C.1.1.1 C.1.1.2.1 dL_law_947 rfl (lv_at hl 0 rfl) ?_
  refine lv_iload_n C.1.1.1 C.1.1.2.1 dL_law_948 rfl (lv_at hl 3 rfl) ?_
  refine lv_iconst (v := 2) C.1.1.1 C.1.1.2.1 dL_law_949 (by decide) ?_
  refine lv_iadd C.1.1.1 C.1.1.2.1 dL_law_950 ?_
  refine va_sld C.1.1.1 C.1.1.2.1 C.2.2.1 C.2.2.2.1 (Nat.not_le.mpr C.2.2.2.1) w.2.2.2.2 (lin hL hi 2 (by decide)) dL_law_951 ?_
  refine lv_aload_n C.1.1.1 C.1.1.2.1 dL_law_952 rfl (lv_at hl 0 rfl) ?_
  refine lv_iload_n C.1.1.1 C.1.1.2.1 dL_law_953 rfl (lv_at hl 3 rfl) ?_
  refine lv_iconst (v := 3) C.1.1.1 C.1.1.2.1 dL_law_954 (by decide) ?_
  refine lv_iadd C.1.1.1 C.1.1.2.1 dL_law_955 ?_
  refine va_sld C.1.1.1 C.1.1.2.1 C.2.2.1 C.2.2.2.1 (Nat.not_le.mpr C.2.2.2.1) w.2.2.2.2 (lin hL hi 3 (by decide)) dL_law_956 ?_
  refine y_calli C.1 w.1 w.2.1 w.2.2.2.2 C.2.2.2.2.1 [.int (xs (nI i + 1).toNatClampNeg), .int (xs (nI i + 2).toNatClampNeg), .int (xs (nI i + 3).toNatClampNeg)] (c_X7_post h) kv_X7_post kl_46 (va_recv C.1.2.1 w.1 kc_X7.2.1 (wsX0 gX X)) rfl hl.1 (Nat.le_of_ble_eq_true rfl) ⟨Nat.le_of_ble_eq_true rfl, Nat.le_of_ble_eq_true rfl⟩ ⟨Nat.le_refl _, Nat.le_refl _⟩ dL_law_957 (fun r X1 H1 locs1 h hP1 hD1 hk1 hS1 => ?_)
  have w := LW.stepX C w hP1 hD1 hk1 hS1
  generalize H1 = H, locs1 = locs at w ⊢
  refine lv_aload_n C.1.1.1 C.1.1.2.1 dL_law_960 rfl (lv_at hl 2 rfl) ?_
  refine lv_aload_n C.1.1.1 C.1.1.2.1 dL_law_961 rfl (lv_at hl 0 rfl) ?_
  refine lv_iload_n C.1.1.1 C.1.1.2.1 dL_law_962 rfl (lv_at hl 3 rfl) ?_
  refine lv_iconst (v := 1) C.1.1.1 C.1.1.2.1 dL_law_963 (by decide) ?_
  refine lv_iadd C.1.1.1 C.1.1.2.1 dL_law_964 ?_
  refine va_sld C.1.1.1 C.1.1.2.1 C.2.2.1 C.2.2.2.1 (Nat.not_le.mpr C.2.2.2.1) w.2.2.2.2 (lin hL hi 1 (by decide)) dL_law_965 ?_
  refine lv_aload_n C.1.1.1 C.1.1.2.1 dL_law_966 rfl (lv_at hl 0 rfl) ?_
  refine lv_iload_n C.1.1.1 C.1.1.2.1 dL_law_967 rfl (lv_at hl 3 rfl) ?_
  refine lv_iconst (v := 2) C.1.1.1 C.1.1.2.1 dL_law_968 (by decide) ?_
  refine lv_iadd C.1.1.1 C.1.1.2.1 dL_law_969 ?_
  refine va_sld C.1.1.1 C.1.1.2.1 C.2.2.1 C.2.2.2.1 (Nat.not_le.mpr C.2.2.2.1) w.2.2.2.2 (lin hL hi 2 (by decide)) dL_law_970 ?_
  refine lv_aload_n C.1.1.1 C.1.1.2.1 dL_law_971 rfl (lv_at hl 0 rfl) ?_
  refine lv_iload_n C.1.1.1 C.1.1.2.1 dL_law_972 rfl (lv_at hl 3 rfl) ?_
  refine lv_iconst (v := 3) C.1.1.1 C.1.1.2.1 dL_law_973 (by decide) ?_
  refine lv_iadd C.1.1.1 C.1.1.2.1 dL_law_974 ?_
  refine va_sld C.1.1.1 C.1.1.2.1 C.2.2.1 C.2.2.2.1 (Nat.not_le.mpr C.2.2.2.1) w.2.2.2.2 (lin hL hi 3 (by decide)) dL_law_975 ?_
  refine y_calli C.2.1 w.2.2.1 w.2.2.2.1 w.2.2.2.2 C.2.2.2.2.2.1 [.int (xs (nI i + 1).toNatClampNeg), .int (xs (nI i + 2).toNatClampNeg), .int (xs (nI i + 3).toNatClampNeg)] (c_X8_post h) kv_X8_post kl_47 (va_recv C.2.1.2.1 w.2.2.1 kc_X8.2.1 (wsM0 gM M)) rfl hl.1 (Nat.le_of_ble_eq_true rfl) ⟨Nat.le_of_ble_eq_true rfl, Nat.le_of_ble_eq_true rfl⟩ ⟨Nat.le_refl _, Nat.le_refl _⟩ dL_law_976 (fun r1 M1 H1 locs1 h hP1 hD1 hk1 hS1 => ?_)
  obtain ⟨e2, hrel⟩ := h
  have w := LW.stepM C w hP1 hD1 hk1 hS1
  generalize H1 = H, locs1 = locs at w ⊢
  refine lv_icmp_eq (tgt := 1577) C.1.1.1 C.1.1.2.1 dL_law_979 (by decide) (fun _ => ?_) (fun hc => absurd e2 hc)
  exact hn _ _ _ _ _ hrel w hl
set_option maxHeartbeats 4000000 in
set_option maxRecDepth 100000 in
theorem law_24 {H : Heap} {locs : List Loc} {ls : Array Slot} {i : Nat} (hO : op_kind Rel) (C : LC p s m c b L xs gX gM) (hL : L ≤ 320) (hi : i + 5 ≤ L) (hn : ∀ (X M : Mem) (H : Heap) (locs : List Loc) (ls : Array Slot), Rel X M → LW s gX gM X M H locs → lv_has ls 4 [(0, .ref b), (1, .ref (ga gX 0)), (2, .ref (ga gM 0)), (3, .int (nI i))] → W p l e room_1 s m #[Value.ref b] below meth c H locs 600000 7302250 (lw_Z below #[Value.ref b] s) (F0 m 1577 ls [])) (hR : Rel X M) (w : LW s gX gM X M H locs) (hl : lv_has ls 4 [(0, .ref b), (1, .ref (ga gX 0)), (2, .ref (ga gM 0)), (3, .int (nI i))]) : W p l e room_1 s m #[Value.ref b] below meth c H locs 600000 7302250 (lw_Z below #[Value.ref b] s) (F0 m 984 ls []) := by
  have h := hO X M (xs (nI i + 1).toNatClampNeg) (xs (nI i + 2).toNatClampNeg) (xs (nI i + 3).toNatClampNeg) hR
  refine lv_aload_n C.1.1.1 C.1.1.2.1 dL_law_984 rfl (lv_at hl 1 rfl) ?_
  refine lv_aload_n C.1.1.1 C.1.1.2.1 dL_law_985 rfl (lv_at hl 0 rfl) ?_
  refine lv_iload_n C.1.1.1 C.1.1.2.1 dL_law_986 rfl (lv_at hl 3 rfl) ?_
  refine lv_iconst (v := 1) C.1.1.1 C.1.1.2.1 dL_law_987 (by decide) ?_
  refine lv_iadd C.1.1.1 C.1.1.2.1 dL_law_988 ?_
  refine va_sld C.1.1.1 C.1.1.2.1 C.2.2.1 C.2.2.2.1 (Nat.not_le.mpr C.2.2.2.1) w.2.2.2.2 (lin hL hi 1 (by decide)) dL_law_989 ?_
  refine lv_aload_n C.1.1.1 C.1.1.2.1 dL_law_990 rfl (lv_at hl 0 rfl) ?_
  refine lv_iload_n C.1.1.1 C.1.1.2.1 dL_law_991 rfl (lv_at hl 3 rfl) ?_
  refine lv_iconst (v := 2) C.1.1.1 C.1.1.2.1 dL_law_992 (by decide) ?_
  refine lv_iadd C.1.1.1 C.1.1.2.1 dL_law_993 ?_
  refine va_sld C.1.1.1 C.1.1.2.1 C.2.2.1 C.2.2.2.1 (Nat.not_le.mpr C.2.2.2.1) w.2.2.2.2 (lin hL hi 2 (by decide)) dL_law_994 ?_
  refine lv_aload_n C.1.1.1 C.1.1.2.1 dL_law_995 rfl (lv_at hl 0 rfl) ?_
  refine lv_iload_n C.1.1.1 C.1.1.2.1 dL_law_996 rfl (lv_at hl 3 rfl) ?_
  refine lv_iconst (v := 3) C.1.1.1 C.1.1.2.1 dL_law_997 (by decide) ?_
  refine lv_iadd C.1.1.1 C.1.1.2.1 dL_law_998 ?_
  refine va_sld C.1.1.1 C.1.1.2.1 C.2.2.1 C.2.2.2.1 (Nat.not_le.mpr C.2.2.2.1) w.2.2.2.2 (lin hL hi 3 (by decide)) dL_law_999 ?_
  refine y_calli C.1 w.1 w.2.1 w.2.2.2.2 C.2.2.2.2.1 [.int (xs (nI i + 1).toNatClampNeg), .int (xs (nI i + 2).toNatClampNeg), .int (xs (nI i + 3).toNatClampNeg)] (c_X7_kind h) kv_X7_kind kl_48 (va_recv C.1.2.1 w.1 kc_X7.2.1 (wsX0 gX X)) rfl hl.1 (Nat.le_of_ble_eq_true rfl) ⟨Nat.le_of_ble_eq_true rfl, Nat.le_of_ble_eq_true rfl⟩ ⟨Nat.le_refl _, Nat.le_refl _⟩ dL_law_1000 (fun r X1 H1 locs1 h hP1 hD1 hk1 hS1 => ?_)
  have w := LW.stepX C w hP1 hD1 hk1 hS1
  generalize H1 = H, locs1 = locs at w ⊢
  refine lv_aload_n C.1.1.1 C.1.1.2.1 dL_law_1003 rfl (lv_at hl 2 rfl) ?_
  refine lv_aload_n C.1.1.1 C.1.1.2.1 dL_law_1004 rfl (lv_at hl 0 rfl) ?_
  refine lv_iload_n C.1.1.1 C.1.1.2.1 dL_law_1005 rfl (lv_at hl 3 rfl) ?_
  refine lv_iconst (v := 1) C.1.1.1 C.1.1.2.1 dL_law_1006 (by decide) ?_
  refine lv_iadd C.1.1.1 C.1.1.2.1 dL_law_1007 ?_
  refine va_sld C.1.1.1 C.1.1.2.1 C.2.2.1 C.2.2.2.1 (Nat.not_le.mpr C.2.2.2.1) w.2.2.2.2 (lin hL hi 1 (by decide)) dL_law_1008 ?_
  refine lv_aload_n C.1.1.1 C.1.1.2.1 dL_law_1009 rfl (lv_at hl 0 rfl) ?_
  refine lv_iload_n C.1.1.1 C.1.1.2.1 dL_law_1010 rfl (lv_at hl 3 rfl) ?_
  refine lv_iconst (v := 2) C.1.1.1 C.1.1.2.1 dL_law_1011 (by decide) ?_
  refine lv_iadd C.1.1.1 C.1.1.2.1 dL_law_1012 ?_
  refine va_sld C.1.1.1 C.1.1.2.1 C.2.2.1 C.2.2.2.1 (Nat.not_le.mpr C.2.2.2.1) w.2.2.2.2 (lin hL hi 2 (by decide)) dL_law_1013 ?_
  refine lv_aload_n C.1.1.1 C.1.1.2.1 dL_law_1014 rfl (lv_at hl 0 rfl) ?_
  refine lv_iload_n C.1.1.1 C.1.1.2.1 dL_law_1015 rfl (lv_at hl 3 rfl) ?_
  refine lv_iconst (v := 3) C.1.1.1 C.1.1.2.1 dL_law_1016 (by decide) ?_
  refine lv_iadd C.1.1.1 C.1.1.2.1 dL_law_1017 ?_
  refine va_sld C.1.1.1 C.1.1.2.1 C.2.2.1 C.2.2.2.1 (Nat.not_le.mpr C.2.2.2.1) w.2.2.2.2 (lin hL hi 3 (by decide)) dL_law_1018 ?_
  refine y_calli C.2.1 w.2.2.1 w.2.2.2.1 w.2.2.2.2 C.2.2.2.2.2.1 [.int (xs (nI i + 1).toNatClampNeg), .int (xs (nI i + 2).toNatClampNeg), .int (xs (nI i + 3).toNatClampNeg)] (c_X8_kind h) kv_X8_kind kl_49 (va_recv C.2.1.2.1 w.2.2.1 kc_X8.2.1 (wsM0 gM M)) rfl hl.1 (Nat.le_of_ble_eq_true rfl) ⟨Nat.le_of_ble_eq_true rfl, Nat.le_of_ble_eq_true rfl⟩ ⟨Nat.le_refl _, Nat.le_refl _⟩ dL_law_1019 (fun r1 M1 H1 locs1 h hP1 hD1 hk1 hS1 => ?_)
  obtain ⟨e2, hrel⟩ := h
  have w := LW.stepM C w hP1 hD1 hk1 hS1
  generalize H1 = H, locs1 = locs at w ⊢
  refine lv_icmp_eq (tgt := 1577) C.1.1.1 C.1.1.2.1 dL_law_1022 (by decide) (fun _ => ?_) (fun hc => absurd e2 hc)
  exact hn _ _ _ _ _ hrel w hl
set_option maxHeartbeats 4000000 in
set_option maxRecDepth 100000 in
theorem law_25 {H : Heap} {locs : List Loc} {ls : Array Slot} {i : Nat} (hO : op_sharp Rel) (C : LC p s m c b L xs gX gM) (hL : L ≤ 320) (hi : i + 5 ≤ L) (hn : ∀ (X M : Mem) (H : Heap) (locs : List Loc) (ls : Array Slot), Rel X M → LW s gX gM X M H locs → lv_has ls 4 [(0, .ref b), (1, .ref (ga gX 0)), (2, .ref (ga gM 0)), (3, .int (nI i))] → W p l e room_1 s m #[Value.ref b] below meth c H locs 600000 7302250 (lw_Z below #[Value.ref b] s) (F0 m 1577 ls [])) (hR : Rel X M) (w : LW s gX gM X M H locs) (hl : lv_has ls 4 [(0, .ref b), (1, .ref (ga gX 0)), (2, .ref (ga gM 0)), (3, .int (nI i))]) : W p l e room_1 s m #[Value.ref b] below meth c H locs 600000 7302250 (lw_Z below #[Value.ref b] s) (F0 m 1027 ls []) := by
  have h := hO X M (xs (nI i + 1).toNatClampNeg) (xs (nI i + 2).toNatClampNeg) (xs (nI i + 3).toNatClampNeg) hR
  refine lv_aload_n C.1.1.1 C.1.1.2.1 dL_law_1027 rfl (lv_at hl 1 rfl) ?_
  refine lv_aload_n C.1.1.1 C.1.1.2.1 dL_law_1028 rfl (lv_at hl 0 rfl) ?_
  refine lv_iload_n C.1.1.1 C.1.1.2.1 dL_law_1029 rfl (lv_at hl 3 rfl) ?_
  refine lv_iconst (v := 1) C.1.1.1 C.1.1.2.1 dL_law_1030 (by decide) ?_
  refine lv_iadd C.1.1.1 C.1.1.2.1 dL_law_1031 ?_
  refine va_sld C.1.1.1 C.1.1.2.1 C.2.2.1 C.2.2.2.1 (Nat.not_le.mpr C.2.2.2.1) w.2.2.2.2 (lin hL hi 1 (by decide)) dL_law_1032 ?_
  refine lv_aload_n C.1.1.1 C.1.1.2.1 dL_law_1033 rfl (lv_at hl 0 rfl) ?_
  refine lv_iload_n C.1.1.1 C.1.1.2.1 dL_law_1034 rfl (lv_at hl 3 rfl) ?_
  refine lv_iconst (v := 2) C.1.1.1 C.1.1.2.1 dL_law_1035 (by decide) ?_
  refine lv_iadd C.1.1.1 C.1.1.2.1 dL_law_1036 ?_
  refine va_sld C.1.1.1 C.1.1.2.1 C.2.2.1 C.2.2.2.1 (Nat.not_le.mpr C.2.2.2.1) w.2.2.2.2 (lin hL hi 2 (by decide)) dL_law_1037 ?_
  refine lv_aload_n C.1.1.1 C.1.1.2.1 dL_law_1038 rfl (lv_at hl 0 rfl) ?_
  refine lv_iload_n C.1.1.1 C.1.1.2.1 dL_law_1039 rfl (lv_at hl 3 rfl) ?_
  refine lv_iconst (v := 3) C.1.1.1 C.1.1.2.1 dL_law_1040 (by decide) ?_
  refine lv_iadd C.1.1.1 C.1.1.2.1 dL_law_1041 ?_
  refine va_sld C.1.1.1 C.1.1.2.1 C.2.2.1 C.2.2.2.1 (Nat.not_le.mpr C.2.2.2.1) w.2.2.2.2 (lin hL hi 3 (by decide)) dL_law_1042 ?_
  refine y_calli C.1 w.1 w.2.1 w.2.2.2.2 C.2.2.2.2.1 [.int (xs (nI i + 1).toNatClampNeg), .int (xs (nI i + 2).toNatClampNeg), .int (xs (nI i + 3).toNatClampNeg)] (c_X7_sharp h) kv_X7_sharp kl_50 (va_recv C.1.2.1 w.1 kc_X7.2.1 (wsX0 gX X)) rfl hl.1 (Nat.le_of_ble_eq_true rfl) ⟨Nat.le_of_ble_eq_true rfl, Nat.le_of_ble_eq_true rfl⟩ ⟨Nat.le_refl _, Nat.le_refl _⟩ dL_law_1043 (fun r X1 H1 locs1 h hP1 hD1 hk1 hS1 => ?_)
  have w := LW.stepX C w hP1 hD1 hk1 hS1
  generalize H1 = H, locs1 = locs at w ⊢
  refine lv_aload_n C.1.1.1 C.1.1.2.1 dL_law_1046 rfl (lv_at hl 2 rfl) ?_
  refine lv_aload_n C.1.1.1 C.1.1.2.1 dL_law_1047 rfl (lv_at hl 0 rfl) ?_
  refine lv_iload_n C.1.1.1 C.1.1.2.1 dL_law_1048 rfl (lv_at hl 3 rfl) ?_
  refine lv_iconst (v := 1) C.1.1.1 C.1.1.2.1 dL_law_1049 (by decide) ?_
  refine lv_iadd C.1.1.1 C.1.1.2.1 dL_law_1050 ?_
  refine va_sld C.1.1.1 C.1.1.2.1 C.2.2.1 C.2.2.2.1 (Nat.not_le.mpr C.2.2.2.1) w.2.2.2.2 (lin hL hi 1 (by decide)) dL_law_1051 ?_
  refine lv_aload_n C.1.1.1 C.1.1.2.1 dL_law_1052 rfl (lv_at hl 0 rfl) ?_
  refine lv_iload_n C.1.1.1 C.1.1.2.1 dL_law_1053 rfl (lv_at hl 3 rfl) ?_
  refine lv_iconst (v := 2) C.1.1.1 C.1.1.2.1 dL_law_1054 (by decide) ?_
  refine lv_iadd C.1.1.1 C.1.1.2.1 dL_law_1055 ?_
  refine va_sld C.1.1.1 C.1.1.2.1 C.2.2.1 C.2.2.2.1 (Nat.not_le.mpr C.2.2.2.1) w.2.2.2.2 (lin hL hi 2 (by decide)) dL_law_1056 ?_
  refine lv_aload_n C.1.1.1 C.1.1.2.1 dL_law_1057 rfl (lv_at hl 0 rfl) ?_
  refine lv_iload_n C.1.1.1 C.1.1.2.1 dL_law_1058 rfl (lv_at hl 3 rfl) ?_
  refine lv_iconst (v := 3) C.1.1.1 C.1.1.2.1 dL_law_1059 (by decide) ?_
  refine lv_iadd C.1.1.1 C.1.1.2.1 dL_law_1060 ?_
  refine va_sld C.1.1.1 C.1.1.2.1 C.2.2.1 C.2.2.2.1 (Nat.not_le.mpr C.2.2.2.1) w.2.2.2.2 (lin hL hi 3 (by decide)) dL_law_1061 ?_
  refine y_calli C.2.1 w.2.2.1 w.2.2.2.1 w.2.2.2.2 C.2.2.2.2.2.1 [.int (xs (nI i + 1).toNatClampNeg), .int (xs (nI i + 2).toNatClampNeg), .int (xs (nI i + 3).toNatClampNeg)] (c_X8_sharp h) kv_X8_sharp kl_51 (va_recv C.2.1.2.1 w.2.2.1 kc_X8.2.1 (wsM0 gM M)) rfl hl.1 (Nat.le_of_ble_eq_true rfl) ⟨Nat.le_of_ble_eq_true rfl, Nat.le_of_ble_eq_true rfl⟩ ⟨Nat.le_refl _, Nat.le_refl _⟩ dL_law_1062 (fun r1 M1 H1 locs1 h hP1 hD1 hk1 hS1 => ?_)
  obtain ⟨e2, hrel⟩ := h
  have w := LW.stepM C w hP1 hD1 hk1 hS1
  generalize H1 = H, locs1 = locs at w ⊢
  refine lv_icmp_eq (tgt := 1577) C.1.1.1 C.1.1.2.1 dL_law_1065 (by decide) (fun _ => ?_) (fun hc => absurd e2 hc)
  exact hn _ _ _ _ _ hrel w hl
set_option maxHeartbeats 4000000 in
set_option maxRecDepth 100000 in
theorem law_26 {H : Heap} {locs : List Loc} {ls : Array Slot} {i : Nat} (hO : op_luck Rel) (C : LC p s m c b L xs gX gM) (hL : L ≤ 320) (hi : i + 5 ≤ L) (hn : ∀ (X M : Mem) (H : Heap) (locs : List Loc) (ls : Array Slot), Rel X M → LW s gX gM X M H locs → lv_has ls 4 [(0, .ref b), (1, .ref (ga gX 0)), (2, .ref (ga gM 0)), (3, .int (nI i))] → W p l e room_1 s m #[Value.ref b] below meth c H locs 600000 7302250 (lw_Z below #[Value.ref b] s) (F0 m 1577 ls [])) (hR : Rel X M) (w : LW s gX gM X M H locs) (hl : lv_has ls 4 [(0, .ref b), (1, .ref (ga gX 0)), (2, .ref (ga gM 0)), (3, .int (nI i))]) : W p l e room_1 s m #[Value.ref b] below meth c H locs 600000 7302250 (lw_Z below #[Value.ref b] s) (F0 m 1070 ls []) := by
  have h := hO X M (xs (nI i + 1).toNatClampNeg) (xs (nI i + 2).toNatClampNeg) (xs (nI i + 3).toNatClampNeg) (xs (nI i + 4).toNatClampNeg) hR
  refine lv_aload_n C.1.1.1 C.1.1.2.1 dL_law_1070 rfl (lv_at hl 1 rfl) ?_
  refine lv_aload_n C.1.1.1 C.1.1.2.1 dL_law_1071 rfl (lv_at hl 0 rfl) ?_
  refine lv_iload_n C.1.1.1 C.1.1.2.1 dL_law_1072 rfl (lv_at hl 3 rfl) ?_
  refine lv_iconst (v := 1) C.1.1.1 C.1.1.2.1 dL_law_1073 (by decide) ?_
  refine lv_iadd C.1.1.1 C.1.1.2.1 dL_law_1074 ?_
  refine va_sld C.1.1.1 C.1.1.2.1 C.2.2.1 C.2.2.2.1 (Nat.not_le.mpr C.2.2.2.1) w.2.2.2.2 (lin hL hi 1 (by decide)) dL_law_1075 ?_
  refine lv_aload_n C.1.1.1 C.1.1.2.1 dL_law_1076 rfl (lv_at hl 0 rfl) ?_
  refine lv_iload_n C.1.1.1 C.1.1.2.1 dL_law_1077 rfl (lv_at hl 3 rfl) ?_
  refine lv_iconst (v := 2) C.1.1.1 C.1.1.2.1 dL_law_1078 (by decide) ?_
  refine lv_iadd C.1.1.1 C.1.1.2.1 dL_law_1079 ?_
  refine va_sld C.1.1.1 C.1.1.2.1 C.2.2.1 C.2.2.2.1 (Nat.not_le.mpr C.2.2.2.1) w.2.2.2.2 (lin hL hi 2 (by decide)) dL_law_1080 ?_
  refine lv_aload_n C.1.1.1 C.1.1.2.1 dL_law_1081 rfl (lv_at hl 0 rfl) ?_
  refine lv_iload_n C.1.1.1 C.1.1.2.1 dL_law_1082 rfl (lv_at hl 3 rfl) ?_
  refine lv_iconst (v := 3) C.1.1.1 C.1.1.2.1 dL_law_1083 (by decide) ?_
  refine lv_iadd C.1.1.1 C.1.1.2.1 dL_law_1084 ?_
  refine va_sld C.1.1.1 C.1.1.2.1 C.2.2.1 C.2.2.2.1 (Nat.not_le.mpr C.2.2.2.1) w.2.2.2.2 (lin hL hi 3 (by decide)) dL_law_1085 ?_
  refine lv_aload_n C.1.1.1 C.1.1.2.1 dL_law_1086 rfl (lv_at hl 0 rfl) ?_
  refine lv_iload_n C.1.1.1 C.1.1.2.1 dL_law_1087 rfl (lv_at hl 3 rfl) ?_
  refine lv_iconst (v := 4) C.1.1.1 C.1.1.2.1 dL_law_1088 (by decide) ?_
  refine lv_iadd C.1.1.1 C.1.1.2.1 dL_law_1089 ?_
  refine va_sld C.1.1.1 C.1.1.2.1 C.2.2.1 C.2.2.2.1 (Nat.not_le.mpr C.2.2.2.1) w.2.2.2.2 (lin hL hi 4 (by decide)) dL_law_1090 ?_
  refine y_calll C.1 w.1 w.2.1 w.2.2.2.2 C.2.2.2.2.1 [.int (xs (nI i + 1).toNatClampNeg), .int (xs (nI i + 2).toNatClampNeg), .int (xs (nI i + 3).toNatClampNeg), .int (xs (nI i + 4).toNatClampNeg)] (c_X7_luck h) kv_X7_luck kl_52 (va_recv C.1.2.1 w.1 kc_X7.2.1 (wsX0 gX X)) rfl hl.1 (Nat.le_of_ble_eq_true rfl) ⟨Nat.le_of_ble_eq_true rfl, Nat.le_of_ble_eq_true rfl⟩ ⟨Nat.le_refl _, Nat.le_refl _⟩ dL_law_1091 (fun r X1 H1 locs1 h hP1 hD1 hk1 hS1 => ?_)
  have w := LW.stepX C w hP1 hD1 hk1 hS1
  generalize H1 = H, locs1 = locs at w ⊢
  refine lv_aload_n C.1.1.1 C.1.1.2.1 dL_law_1094 rfl (lv_at hl 2 rfl) ?_
  refine lv_aload_n C.1.1.1 C.1.1.2.1 dL_law_1095 rfl (lv_at hl 0 rfl) ?_
  refine lv_iload_n C.1.1.1 C.1.1.2.1 dL_law_1096 rfl (lv_at hl 3 rfl) ?_
  refine lv_iconst (v := 1) C.1.1.1 C.1.1.2.1 dL_law_1097 (by decide) ?_
  refine lv_iadd C.1.1.1 C.1.1.2.1 dL_law_1098 ?_
  refine va_sld C.1.1.1 C.1.1.2.1 C.2.2.1 C.2.2.2.1 (Nat.not_le.mpr C.2.2.2.1) w.2.2.2.2 (lin hL hi 1 (by decide)) dL_law_1099 ?_
  refine lv_aload_n C.1.1.1 C.1.1.2.1 dL_law_1100 rfl (lv_at hl 0 rfl) ?_
  refine lv_iload_n C.1.1.1 C.1.1.2.1 dL_law_1101 rfl (lv_at hl 3 rfl) ?_
  refine lv_iconst (v := 2) C.1.1.1 C.1.1.2.1 dL_law_1102 (by decide) ?_
  refine lv_iadd C.1.1.1 C.1.1.2.1 dL_law_1103 ?_
  refine va_sld C.1.1.1 C.1.1.2.1 C.2.2.1 C.2.2.2.1 (Nat.not_le.mpr C.2.2.2.1) w.2.2.2.2 (lin hL hi 2 (by decide)) dL_law_1104 ?_
  refine lv_aload_n C.1.1.1 C.1.1.2.1 dL_law_1105 rfl (lv_at hl 0 rfl) ?_
  refine lv_iload_n C.1.1.1 C.1.1.2.1 dL_law_1106 rfl (lv_at hl 3 rfl) ?_
  refine lv_iconst (v := 3) C.1.1.1 C.1.1.2.1 dL_law_1107 (by decide) ?_
  refine lv_iadd C.1.1.1 C.1.1.2.1 dL_law_1108 ?_
  refine va_sld C.1.1.1 C.1.1.2.1 C.2.2.1 C.2.2.2.1 (Nat.not_le.mpr C.2.2.2.1) w.2.2.2.2 (lin hL hi 3 (by decide)) dL_law_1109 ?_
  refine lv_aload_n C.1.1.1 C.1.1.2.1 dL_law_1110 rfl (lv_at hl 0 rfl) ?_
  refine lv_iload_n C.1.1.1 C.1.1.2.1 dL_law_1111 rfl (lv_at hl 3 rfl) ?_
  refine lv_iconst (v := 4) C.1.1.1 C.1.1.2.1 dL_law_1112 (by decide) ?_
  refine lv_iadd C.1.1.1 C.1.1.2.1 dL_law_1113 ?_
  refine va_sld C.1.1.1 C.1.1.2.1 C.2.2.1 C.2.2.2.1 (Nat.not_le.mpr C.2.2.2.1) w.2.2.2.2 (lin hL hi 4 (by decide)) dL_law_1114 ?_
  refine y_calll C.2.1 w.2.2.1 w.2.2.2.1 w.2.2.2.2 C.2.2.2.2.2.1 [.int (xs (nI i + 1).toNatClampNeg), .int (xs (nI i + 2).toNatClampNeg), .int (xs (nI i + 3).toNatClampNeg), .int (xs (nI i + 4).toNatClampNeg)] (c_X8_luck h) kv_X8_luck kl_53 (va_recv C.2.1.2.1 w.2.2.1 kc_X8.2.1 (wsM0 gM M)) rfl hl.1 (Nat.le_of_ble_eq_true rfl) ⟨Nat.le_of_ble_eq_true rfl, Nat.le_of_ble_eq_true rfl⟩ ⟨Nat.le_refl _, Nat.le_refl _⟩ dL_law_1115 (fun r1 M1 H1 locs1 h hP1 hD1 hk1 hS1 => ?_)
  obtain ⟨e2, hrel⟩ := h
  have w := LW.stepM C w hP1 hD1 hk1 hS1
  generalize H1 = H, locs1 = locs at w ⊢
  refine W.lcmp C.1.1.1 C.1.1.2.1 dL_law_1118 ?_
  refine lv_if_eq (tgt := 1577) C.1.1.1 C.1.1.2.1 dL_law_1119 (by decide) (fun _ => ?_) (fun hc => absurd (by rw [e2]; exact lg_self r1) hc)
  exact hn _ _ _ _ _ hrel w hl
set_option maxHeartbeats 4000000 in
set_option maxRecDepth 100000 in
theorem law_27 {H : Heap} {locs : List Loc} {ls : Array Slot} {i : Nat} (hO : op_mean Rel) (C : LC p s m c b L xs gX gM) (hL : L ≤ 320) (hi : i + 5 ≤ L) (hn : ∀ (X M : Mem) (H : Heap) (locs : List Loc) (ls : Array Slot), Rel X M → LW s gX gM X M H locs → lv_has ls 4 [(0, .ref b), (1, .ref (ga gX 0)), (2, .ref (ga gM 0)), (3, .int (nI i))] → W p l e room_1 s m #[Value.ref b] below meth c H locs 600000 7302250 (lw_Z below #[Value.ref b] s) (F0 m 1577 ls [])) (hR : Rel X M) (w : LW s gX gM X M H locs) (hl : lv_has ls 4 [(0, .ref b), (1, .ref (ga gX 0)), (2, .ref (ga gM 0)), (3, .int (nI i))]) : W p l e room_1 s m #[Value.ref b] below meth c H locs 600000 7302250 (lw_Z below #[Value.ref b] s) (F0 m 1124 ls []) := by
  have h := hO X M (xs (nI i + 1).toNatClampNeg) (xs (nI i + 2).toNatClampNeg) (xs (nI i + 3).toNatClampNeg) hR
  refine lv_aload_n C.1.1.1 C.1.1.2.1 dL_law_1124 rfl (lv_at hl 1 rfl) ?_
  refine lv_aload_n C.1.1.1 C.1.1.2.1 dL_law_1125 rfl (lv_at hl 0 rfl) ?_
  refine lv_iload_n C.1.1.1 C.1.1.2.1 dL_law_1126 rfl (lv_at hl 3 rfl) ?_
  refine lv_iconst (v := 1) C.1.1.1 C.1.1.2.1 dL_law_1127 (by decide) ?_
  refine lv_iadd C.1.1.1 C.1.1.2.1 dL_law_1128 ?_
  refine va_sld C.1.1.1 C.1.1.2.1 C.2.2.1 C.2.2.2.1 (Nat.not_le.mpr C.2.2.2.1) w.2.2.2.2 (lin hL hi 1 (by decide)) dL_law_1129 ?_
  refine lv_aload_n C.1.1.1 C.1.1.2.1 dL_law_1130 rfl (lv_at hl 0 rfl) ?_
  refine lv_iload_n C.1.1.1 C.1.1.2.1 dL_law_1131 rfl (lv_at hl 3 rfl) ?_
  refine lv_iconst (v := 2) C.1.1.1 C.1.1.2.1 dL_law_1132 (by decide) ?_
  refine lv_iadd C.1.1.1 C.1.1.2.1 dL_law_1133 ?_
  refine va_sld C.1.1.1 C.1.1.2.1 C.2.2.1 C.2.2.2.1 (Nat.not_le.mpr C.2.2.2.1) w.2.2.2.2 (lin hL hi 2 (by decide)) dL_law_1134 ?_
  refine lv_aload_n C.1.1.1 C.1.1.2.1 dL_law_1135 rfl (lv_at hl 0 rfl) ?_
  refine lv_iload_n C.1.1.1 C.1.1.2.1 dL_law_1136 rfl (lv_at hl 3 rfl) ?_
  refine lv_iconst (v := 3) C.1.1.1 C.1.1.2.1 dL_law_1137 (by decide) ?_
  refine lv_iadd C.1.1.1 C.1.1.2.1 dL_law_1138 ?_
  refine va_sld C.1.1.1 C.1.1.2.1 C.2.2.1 C.2.2.2.1 (Nat.not_le.mpr C.2.2.2.1) w.2.2.2.2 (lin hL hi 3 (by decide)) dL_law_1139 ?_
  refine y_calll C.1 w.1 w.2.1 w.2.2.2.2 C.2.2.2.2.1 [.int (xs (nI i + 1).toNatClampNeg), .int (xs (nI i + 2).toNatClampNeg), .int (xs (nI i + 3).toNatClampNeg)] (c_X7_mean h) kv_X7_mean kl_54 (va_recv C.1.2.1 w.1 kc_X7.2.1 (wsX0 gX X)) rfl hl.1 (Nat.le_of_ble_eq_true rfl) ⟨Nat.le_of_ble_eq_true rfl, Nat.le_of_ble_eq_true rfl⟩ ⟨Nat.le_refl _, Nat.le_refl _⟩ dL_law_1140 (fun r X1 H1 locs1 h hP1 hD1 hk1 hS1 => ?_)
  have w := LW.stepX C w hP1 hD1 hk1 hS1
  generalize H1 = H, locs1 = locs at w ⊢
  refine lv_aload_n C.1.1.1 C.1.1.2.1 dL_law_1143 rfl (lv_at hl 2 rfl) ?_
  refine lv_aload_n C.1.1.1 C.1.1.2.1 dL_law_1144 rfl (lv_at hl 0 rfl) ?_
  refine lv_iload_n C.1.1.1 C.1.1.2.1 dL_law_1145 rfl (lv_at hl 3 rfl) ?_
  refine lv_iconst (v := 1) C.1.1.1 C.1.1.2.1 dL_law_1146 (by decide) ?_
  refine lv_iadd C.1.1.1 C.1.1.2.1 dL_law_1147 ?_
  refine va_sld C.1.1.1 C.1.1.2.1 C.2.2.1 C.2.2.2.1 (Nat.not_le.mpr C.2.2.2.1) w.2.2.2.2 (lin hL hi 1 (by decide)) dL_law_1148 ?_
  refine lv_aload_n C.1.1.1 C.1.1.2.1 dL_law_1149 rfl (lv_at hl 0 rfl) ?_
  refine lv_iload_n C.1.1.1 C.1.1.2.1 dL_law_1150 rfl (lv_at hl 3 rfl) ?_
  refine lv_iconst (v := 2) C.1.1.1 C.1.1.2.1 dL_law_1151 (by decide) ?_
  refine lv_iadd C.1.1.1 C.1.1.2.1 dL_law_1152 ?_
  refine va_sld C.1.1.1 C.1.1.2.1 C.2.2.1 C.2.2.2.1 (Nat.not_le.mpr C.2.2.2.1) w.2.2.2.2 (lin hL hi 2 (by decide)) dL_law_1153 ?_
  refine lv_aload_n C.1.1.1 C.1.1.2.1 dL_law_1154 rfl (lv_at hl 0 rfl) ?_
  refine lv_iload_n C.1.1.1 C.1.1.2.1 dL_law_1155 rfl (lv_at hl 3 rfl) ?_
  refine lv_iconst (v := 3) C.1.1.1 C.1.1.2.1 dL_law_1156 (by decide) ?_
  refine lv_iadd C.1.1.1 C.1.1.2.1 dL_law_1157 ?_
  refine va_sld C.1.1.1 C.1.1.2.1 C.2.2.1 C.2.2.2.1 (Nat.not_le.mpr C.2.2.2.1) w.2.2.2.2 (lin hL hi 3 (by decide)) dL_law_1158 ?_
  refine y_calll C.2.1 w.2.2.1 w.2.2.2.1 w.2.2.2.2 C.2.2.2.2.2.1 [.int (xs (nI i + 1).toNatClampNeg), .int (xs (nI i + 2).toNatClampNeg), .int (xs (nI i + 3).toNatClampNeg)] (c_X8_mean h) kv_X8_mean kl_55 (va_recv C.2.1.2.1 w.2.2.1 kc_X8.2.1 (wsM0 gM M)) rfl hl.1 (Nat.le_of_ble_eq_true rfl) ⟨Nat.le_of_ble_eq_true rfl, Nat.le_of_ble_eq_true rfl⟩ ⟨Nat.le_refl _, Nat.le_refl _⟩ dL_law_1159 (fun r1 M1 H1 locs1 h hP1 hD1 hk1 hS1 => ?_)
  obtain ⟨e2, hrel⟩ := h
  have w := LW.stepM C w hP1 hD1 hk1 hS1
  generalize H1 = H, locs1 = locs at w ⊢
  refine W.lcmp C.1.1.1 C.1.1.2.1 dL_law_1162 ?_
  refine lv_if_eq (tgt := 1577) C.1.1.1 C.1.1.2.1 dL_law_1163 (by decide) (fun _ => ?_) (fun hc => absurd (by rw [e2]; exact lg_self r1) hc)
  exact hn _ _ _ _ _ hrel w hl
set_option maxHeartbeats 4000000 in
set_option maxRecDepth 100000 in
theorem law_28 {H : Heap} {locs : List Loc} {ls : Array Slot} {i : Nat} (hO : op_see Rel) (C : LC p s m c b L xs gX gM) (hL : L ≤ 320) (hi : i + 5 ≤ L) (hn : ∀ (X M : Mem) (H : Heap) (locs : List Loc) (ls : Array Slot), Rel X M → LW s gX gM X M H locs → lv_has ls 4 [(0, .ref b), (1, .ref (ga gX 0)), (2, .ref (ga gM 0)), (3, .int (nI i))] → W p l e room_1 s m #[Value.ref b] below meth c H locs 600000 7302250 (lw_Z below #[Value.ref b] s) (F0 m 1577 ls [])) (hR : Rel X M) (w : LW s gX gM X M H locs) (hl : lv_has ls 4 [(0, .ref b), (1, .ref (ga gX 0)), (2, .ref (ga gM 0)), (3, .int (nI i))]) : W p l e room_1 s m #[Value.ref b] below meth c H locs 600000 7302250 (lw_Z below #[Value.ref b] s) (F0 m 1168 ls []) := by
  have h := hO X M (xs (nI i + 1).toNatClampNeg) (xs (nI i + 2).toNatClampNeg) (xs (nI i + 3).toNatClampNeg) hR
  refine lv_aload_n C.1.1.1 C.1.1.2.1 dL_law_1168 rfl (lv_at hl 1 rfl) ?_
  refine lv_aload_n C.1.1.1 C.1.1.2.1 dL_law_1169 rfl (lv_at hl 0 rfl) ?_
  refine lv_iload_n C.1.1.1 C.1.1.2.1 dL_law_1170 rfl (lv_at hl 3 rfl) ?_
  refine lv_iconst (v := 1) C.1.1.1 C.1.1.2.1 dL_law_1171 (by decide) ?_
  refine lv_iadd C.1.1.1 C.1.1.2.1 dL_law_1172 ?_
  refine va_sld C.1.1.1 C.1.1.2.1 C.2.2.1 C.2.2.2.1 (Nat.not_le.mpr C.2.2.2.1) w.2.2.2.2 (lin hL hi 1 (by decide)) dL_law_1173 ?_
  refine lv_aload_n C.1.1.1 C.1.1.2.1 dL_law_1174 rfl (lv_at hl 0 rfl) ?_
  refine lv_iload_n C.1.1.1 C.1.1.2.1 dL_law_1175 rfl (lv_at hl 3 rfl) ?_
  refine lv_iconst (v := 2) C.1.1.1 C.1.1.2.1 dL_law_1176 (by decide) ?_
  refine lv_iadd C.1.1.1 C.1.1.2.1 dL_law_1177 ?_
  refine va_sld C.1.1.1 C.1.1.2.1 C.2.2.1 C.2.2.2.1 (Nat.not_le.mpr C.2.2.2.1) w.2.2.2.2 (lin hL hi 2 (by decide)) dL_law_1178 ?_
  refine lv_aload_n C.1.1.1 C.1.1.2.1 dL_law_1179 rfl (lv_at hl 0 rfl) ?_
  refine lv_iload_n C.1.1.1 C.1.1.2.1 dL_law_1180 rfl (lv_at hl 3 rfl) ?_
  refine lv_iconst (v := 3) C.1.1.1 C.1.1.2.1 dL_law_1181 (by decide) ?_
  refine lv_iadd C.1.1.1 C.1.1.2.1 dL_law_1182 ?_
  refine va_sld C.1.1.1 C.1.1.2.1 C.2.2.1 C.2.2.2.1 (Nat.not_le.mpr C.2.2.2.1) w.2.2.2.2 (lin hL hi 3 (by decide)) dL_law_1183 ?_
  refine y_calli C.1 w.1 w.2.1 w.2.2.2.2 C.2.2.2.2.1 [.int (xs (nI i + 1).toNatClampNeg), .int (xs (nI i + 2).toNatClampNeg), .int (xs (nI i + 3).toNatClampNeg)] (c_X7_see h) kv_X7_see kl_56 (va_recv C.1.2.1 w.1 kc_X7.2.1 (wsX0 gX X)) rfl hl.1 (Nat.le_of_ble_eq_true rfl) ⟨Nat.le_of_ble_eq_true rfl, Nat.le_of_ble_eq_true rfl⟩ ⟨Nat.le_refl _, Nat.le_refl _⟩ dL_law_1184 (fun r X1 H1 locs1 h hP1 hD1 hk1 hS1 => ?_)
  have w := LW.stepX C w hP1 hD1 hk1 hS1
  generalize H1 = H, locs1 = locs at w ⊢
  refine lv_aload_n C.1.1.1 C.1.1.2.1 dL_law_1187 rfl (lv_at hl 2 rfl) ?_
  refine lv_aload_n C.1.1.1 C.1.1.2.1 dL_law_1188 rfl (lv_at hl 0 rfl) ?_
  refine lv_iload_n C.1.1.1 C.1.1.2.1 dL_law_1189 rfl (lv_at hl 3 rfl) ?_
  refine lv_iconst (v := 1) C.1.1.1 C.1.1.2.1 dL_law_1190 (by decide) ?_
  refine lv_iadd C.1.1.1 C.1.1.2.1 dL_law_1191 ?_
  refine va_sld C.1.1.1 C.1.1.2.1 C.2.2.1 C.2.2.2.1 (Nat.not_le.mpr C.2.2.2.1) w.2.2.2.2 (lin hL hi 1 (by decide)) dL_law_1192 ?_
  refine lv_aload_n C.1.1.1 C.1.1.2.1 dL_law_1193 rfl (lv_at hl 0 rfl) ?_
  refine lv_iload_n C.1.1.1 C.1.1.2.1 dL_law_1194 rfl (lv_at hl 3 rfl) ?_
  refine lv_iconst (v := 2) C.1.1.1 C.1.1.2.1 dL_law_1195 (by decide) ?_
  refine lv_iadd C.1.1.1 C.1.1.2.1 dL_law_1196 ?_
  refine va_sld C.1.1.1 C.1.1.2.1 C.2.2.1 C.2.2.2.1 (Nat.not_le.mpr C.2.2.2.1) w.2.2.2.2 (lin hL hi 2 (by decide)) dL_law_1197 ?_
  refine lv_aload_n C.1.1.1 C.1.1.2.1 dL_law_1198 rfl (lv_at hl 0 rfl) ?_
  refine lv_iload_n C.1.1.1 C.1.1.2.1 dL_law_1199 rfl (lv_at hl 3 rfl) ?_
  refine lv_iconst (v := 3) C.1.1.1 C.1.1.2.1 dL_law_1200 (by decide) ?_
  refine lv_iadd C.1.1.1 C.1.1.2.1 dL_law_1201 ?_
  refine va_sld C.1.1.1 C.1.1.2.1 C.2.2.1 C.2.2.2.1 (Nat.not_le.mpr C.2.2.2.1) w.2.2.2.2 (lin hL hi 3 (by decide)) dL_law_1202 ?_
  refine y_calli C.2.1 w.2.2.1 w.2.2.2.1 w.2.2.2.2 C.2.2.2.2.2.1 [.int (xs (nI i + 1).toNatClampNeg), .int (xs (nI i + 2).toNatClampNeg), .int (xs (nI i + 3).toNatClampNeg)] (c_X8_see h) kv_X8_see kl_57 (va_recv C.2.1.2.1 w.2.2.1 kc_X8.2.1 (wsM0 gM M)) rfl hl.1 (Nat.le_of_ble_eq_true rfl) ⟨Nat.le_of_ble_eq_true rfl, Nat.le_of_ble_eq_true rfl⟩ ⟨Nat.le_refl _, Nat.le_refl _⟩ dL_law_1203 (fun r1 M1 H1 locs1 h hP1 hD1 hk1 hS1 => ?_)
  obtain ⟨e2, hrel⟩ := h
  have w := LW.stepM C w hP1 hD1 hk1 hS1
  generalize H1 = H, locs1 = locs at w ⊢
  refine lv_icmp_eq (tgt := 1577) C.1.1.1 C.1.1.2.1 dL_law_1206 (by decide) (fun _ => ?_) (fun hc => absurd e2 hc)
  exact hn _ _ _ _ _ hrel w hl
set_option maxHeartbeats 4000000 in
set_option maxRecDepth 100000 in
theorem law_29 {H : Heap} {locs : List Loc} {ls : Array Slot} {i : Nat} (hO : op_forget Rel) (C : LC p s m c b L xs gX gM) (hL : L ≤ 320) (hi : i + 5 ≤ L) (hn : ∀ (X M : Mem) (H : Heap) (locs : List Loc) (ls : Array Slot), Rel X M → LW s gX gM X M H locs → lv_has ls 4 [(0, .ref b), (1, .ref (ga gX 0)), (2, .ref (ga gM 0)), (3, .int (nI i))] → W p l e room_1 s m #[Value.ref b] below meth c H locs 600000 7302250 (lw_Z below #[Value.ref b] s) (F0 m 1577 ls [])) (hR : Rel X M) (w : LW s gX gM X M H locs) (hl : lv_has ls 4 [(0, .ref b), (1, .ref (ga gX 0)), (2, .ref (ga gM 0)), (3, .int (nI i))]) : W p l e room_1 s m #[Value.ref b] below meth c H locs 600000 7302250 (lw_Z below #[Value.ref b] s) (F0 m 1211 ls []) := by
  have h := hO X M (xs (nI i + 1).toNatClampNeg) hR
  refine lv_aload_n C.1.1.1 C.1.1.2.1 dL_law_1211 rfl (lv_at hl 1 rfl) ?_
  refine lv_aload_n C.1.1.1 C.1.1.2.1 dL_law_1212 rfl (lv_at hl 0 rfl) ?_
  refine lv_iload_n C.1.1.1 C.1.1.2.1 dL_law_1213 rfl (lv_at hl 3 rfl) ?_
  refine lv_iconst (v := 1) C.1.1.1 C.1.1.2.1 dL_law_1214 (by decide) ?_
  refine lv_iadd C.1.1.1 C.1.1.2.1 dL_law_1215 ?_
  refine va_sld C.1.1.1 C.1.1.2.1 C.2.2.1 C.2.2.2.1 (Nat.not_le.mpr C.2.2.2.1) w.2.2.2.2 (lin hL hi 1 (by decide)) dL_law_1216 ?_
  refine y_calli C.1 w.1 w.2.1 w.2.2.2.2 C.2.2.2.2.1 [.int (xs (nI i + 1).toNatClampNeg)] (c_X7_forget h) kv_X7_forget kl_58 (va_recv C.1.2.1 w.1 kc_X7.2.1 (wsX0 gX X)) rfl hl.1 (Nat.le_of_ble_eq_true rfl) ⟨Nat.le_of_ble_eq_true rfl, Nat.le_of_ble_eq_true rfl⟩ ⟨Nat.le_refl _, Nat.le_refl _⟩ dL_law_1217 (fun r X1 H1 locs1 h hP1 hD1 hk1 hS1 => ?_)
  have w := LW.stepX C w hP1 hD1 hk1 hS1
  generalize H1 = H, locs1 = locs at w ⊢
  refine lv_aload_n C.1.1.1 C.1.1.2.1 dL_law_1220 rfl (lv_at hl 2 rfl) ?_
  refine lv_aload_n C.1.1.1 C.1.1.2.1 dL_law_1221 rfl (lv_at hl 0 rfl) ?_
  refine lv_iload_n C.1.1.1 C.1.1.2.1 dL_law_1222 rfl (lv_at hl 3 rfl) ?_
  refine lv_iconst (v := 1) C.1.1.1 C.1.1.2.1 dL_law_1223 (by decide) ?_
  refine lv_iadd C.1.1.1 C.1.1.2.1 dL_law_1224 ?_
  refine va_sld C.1.1.1 C.1.1.2.1 C.2.2.1 C.2.2.2.1 (Nat.not_le.mpr C.2.2.2.1) w.2.2.2.2 (lin hL hi 1 (by decide)) dL_law_1225 ?_
  refine y_calli C.2.1 w.2.2.1 w.2.2.2.1 w.2.2.2.2 C.2.2.2.2.2.1 [.int (xs (nI i + 1).toNatClampNeg)] (c_X8_forget h) kv_X8_forget kl_59 (va_recv C.2.1.2.1 w.2.2.1 kc_X8.2.1 (wsM0 gM M)) rfl hl.1 (Nat.le_of_ble_eq_true rfl) ⟨Nat.le_of_ble_eq_true rfl, Nat.le_of_ble_eq_true rfl⟩ ⟨Nat.le_refl _, Nat.le_refl _⟩ dL_law_1226 (fun r1 M1 H1 locs1 h hP1 hD1 hk1 hS1 => ?_)
  obtain ⟨e2, hrel⟩ := h
  have w := LW.stepM C w hP1 hD1 hk1 hS1
  generalize H1 = H, locs1 = locs at w ⊢
  refine lv_icmp_eq (tgt := 1577) C.1.1.1 C.1.1.2.1 dL_law_1229 (by decide) (fun _ => ?_) (fun hc => absurd e2 hc)
  exact hn _ _ _ _ _ hrel w hl
set_option maxHeartbeats 4000000 in
set_option maxRecDepth 100000 in
theorem law_30 {H : Heap} {locs : List Loc} {ls : Array Slot} {i : Nat} (hO : op_kinds Rel) (C : LC p s m c b L xs gX gM) (hL : L ≤ 320) (hi : i + 5 ≤ L) (hn : ∀ (X M : Mem) (H : Heap) (locs : List Loc) (ls : Array Slot), Rel X M → LW s gX gM X M H locs → lv_has ls 4 [(0, .ref b), (1, .ref (ga gX 0)), (2, .ref (ga gM 0)), (3, .int (nI i))] → W p l e room_1 s m #[Value.ref b] below meth c H locs 600000 7302250 (lw_Z below #[Value.ref b] s) (F0 m 1577 ls [])) (hR : Rel X M) (w : LW s gX gM X M H locs) (hl : lv_has ls 4 [(0, .ref b), (1, .ref (ga gX 0)), (2, .ref (ga gM 0)), (3, .int (nI i))]) : W p l e room_1 s m #[Value.ref b] below meth c H locs 600000 7302250 (lw_Z below #[Value.ref b] s) (F0 m 1234 ls []) := by
  have h := hO X M (xs (nI i + 1).toNatClampNeg) hR
  refine lv_aload_n C.1.1.1 C.1.1.2.1 dL_law_1234 rfl (lv_at hl 1 rfl) ?_
  refine lv_aload_n C.1.1.1 C.1.1.2.1 dL_law_1235 rfl (lv_at hl 0 rfl) ?_
  refine lv_iload_n C.1.1.1 C.1.1.2.1 dL_law_1236 rfl (lv_at hl 3 rfl) ?_
  refine lv_iconst (v := 1) C.1.1.1 C.1.1.2.1 dL_law_1237 (by decide) ?_
  refine lv_iadd C.1.1.1 C.1.1.2.1 dL_law_1238 ?_
  refine va_sld C.1.1.1 C.1.1.2.1 C.2.2.1 C.2.2.2.1 (Nat.not_le.mpr C.2.2.2.1) w.2.2.2.2 (lin hL hi 1 (by decide)) dL_law_1239 ?_
  refine y_calli C.1 w.1 w.2.1 w.2.2.2.2 C.2.2.2.2.1 [.int (xs (nI i + 1).toNatClampNeg)] (c_X7_kinds h) kv_X7_kinds kl_60 (va_recv C.1.2.1 w.1 kc_X7.2.1 (wsX0 gX X)) rfl hl.1 (Nat.le_of_ble_eq_true rfl) ⟨Nat.le_of_ble_eq_true rfl, Nat.le_of_ble_eq_true rfl⟩ ⟨Nat.le_refl _, Nat.le_refl _⟩ dL_law_1240 (fun r X1 H1 locs1 h hP1 hD1 hk1 hS1 => ?_)
  have w := LW.stepX C w hP1 hD1 hk1 hS1
  generalize H1 = H, locs1 = locs at w ⊢
  refine lv_aload_n C.1.1.1 C.1.1.2.1 dL_law_1243 rfl (lv_at hl 2 rfl) ?_
  refine lv_aload_n C.1.1.1 C.1.1.2.1 dL_law_1244 rfl (lv_at hl 0 rfl) ?_
  refine lv_iload_n C.1.1.1 C.1.1.2.1 dL_law_1245 rfl (lv_at hl 3 rfl) ?_
  refine lv_iconst (v := 1) C.1.1.1 C.1.1.2.1 dL_law_1246 (by decide) ?_
  refine lv_iadd C.1.1.1 C.1.1.2.1 dL_law_1247 ?_
  refine va_sld C.1.1.1 C.1.1.2.1 C.2.2.1 C.2.2.2.1 (Nat.not_le.mpr C.2.2.2.1) w.2.2.2.2 (lin hL hi 1 (by decide)) dL_law_1248 ?_
  refine y_calli C.2.1 w.2.2.1 w.2.2.2.1 w.2.2.2.2 C.2.2.2.2.2.1 [.int (xs (nI i + 1).toNatClampNeg)] (c_X8_kinds h) kv_X8_kinds kl_61 (va_recv C.2.1.2.1 w.2.2.1 kc_X8.2.1 (wsM0 gM M)) rfl hl.1 (Nat.le_of_ble_eq_true rfl) ⟨Nat.le_of_ble_eq_true rfl, Nat.le_of_ble_eq_true rfl⟩ ⟨Nat.le_refl _, Nat.le_refl _⟩ dL_law_1249 (fun r1 M1 H1 locs1 h hP1 hD1 hk1 hS1 => ?_)
  obtain ⟨e2, hrel⟩ := h
  have w := LW.stepM C w hP1 hD1 hk1 hS1
  generalize H1 = H, locs1 = locs at w ⊢
  refine lv_icmp_eq (tgt := 1577) C.1.1.1 C.1.1.2.1 dL_law_1252 (by decide) (fun _ => ?_) (fun hc => absurd e2 hc)
  exact hn _ _ _ _ _ hrel w hl
set_option maxHeartbeats 4000000 in
set_option maxRecDepth 100000 in
theorem law_31 {H : Heap} {locs : List Loc} {ls : Array Slot} {i : Nat} (hO : op_gates Rel) (C : LC p s m c b L xs gX gM) (hL : L ≤ 320) (hi : i + 5 ≤ L) (hn : ∀ (X M : Mem) (H : Heap) (locs : List Loc) (ls : Array Slot), Rel X M → LW s gX gM X M H locs → lv_has ls 4 [(0, .ref b), (1, .ref (ga gX 0)), (2, .ref (ga gM 0)), (3, .int (nI i))] → W p l e room_1 s m #[Value.ref b] below meth c H locs 600000 7302250 (lw_Z below #[Value.ref b] s) (F0 m 1577 ls [])) (hR : Rel X M) (w : LW s gX gM X M H locs) (hl : lv_has ls 4 [(0, .ref b), (1, .ref (ga gX 0)), (2, .ref (ga gM 0)), (3, .int (nI i))]) : W p l e room_1 s m #[Value.ref b] below meth c H locs 600000 7302250 (lw_Z below #[Value.ref b] s) (F0 m 1257 ls []) := by
  have h := hO X M (xs (nI i + 1).toNatClampNeg) hR
  refine lv_aload_n C.1.1.1 C.1.1.2.1 dL_law_1257 rfl (lv_at hl 1 rfl) ?_
  refine lv_aload_n C.1.1.1 C.1.1.2.1 dL_law_1258 rfl (lv_at hl 0 rfl) ?_
  refine lv_iload_n C.1.1.1 C.1.1.2.1 dL_law_1259 rfl (lv_at hl 3 rfl) ?_
  refine lv_iconst (v := 1) C.1.1.1 C.1.1.2.1 dL_law_1260 (by decide) ?_
  refine lv_iadd C.1.1.1 C.1.1.2.1 dL_law_1261 ?_
  refine va_sld C.1.1.1 C.1.1.2.1 C.2.2.1 C.2.2.2.1 (Nat.not_le.mpr C.2.2.2.1) w.2.2.2.2 (lin hL hi 1 (by decide)) dL_law_1262 ?_
  refine y_calli C.1 w.1 w.2.1 w.2.2.2.2 C.2.2.2.2.1 [.int (xs (nI i + 1).toNatClampNeg)] (c_X7_gates h) kv_X7_gates kl_62 (va_recv C.1.2.1 w.1 kc_X7.2.1 (wsX0 gX X)) rfl hl.1 (Nat.le_of_ble_eq_true rfl) ⟨Nat.le_of_ble_eq_true rfl, Nat.le_of_ble_eq_true rfl⟩ ⟨Nat.le_refl _, Nat.le_refl _⟩ dL_law_1263 (fun r X1 H1 locs1 h hP1 hD1 hk1 hS1 => ?_)
  have w := LW.stepX C w hP1 hD1 hk1 hS1
  generalize H1 = H, locs1 = locs at w ⊢
  refine lv_aload_n C.1.1.1 C.1.1.2.1 dL_law_1266 rfl (lv_at hl 2 rfl) ?_
  refine lv_aload_n C.1.1.1 C.1.1.2.1 dL_law_1267 rfl (lv_at hl 0 rfl) ?_
  refine lv_iload_n C.1.1.1 C.1.1.2.1 dL_law_1268 rfl (lv_at hl 3 rfl) ?_
  refine lv_iconst (v := 1) C.1.1.1 C.1.1.2.1 dL_law_1269 (by decide) ?_
  refine lv_iadd C.1.1.1 C.1.1.2.1 dL_law_1270 ?_
  refine va_sld C.1.1.1 C.1.1.2.1 C.2.2.1 C.2.2.2.1 (Nat.not_le.mpr C.2.2.2.1) w.2.2.2.2 (lin hL hi 1 (by decide)) dL_law_1271 ?_
  refine y_calli C.2.1 w.2.2.1 w.2.2.2.1 w.2.2.2.2 C.2.2.2.2.2.1 [.int (xs (nI i + 1).toNatClampNeg)] (c_X8_gates h) kv_X8_gates kl_63 (va_recv C.2.1.2.1 w.2.2.1 kc_X8.2.1 (wsM0 gM M)) rfl hl.1 (Nat.le_of_ble_eq_true rfl) ⟨Nat.le_of_ble_eq_true rfl, Nat.le_of_ble_eq_true rfl⟩ ⟨Nat.le_refl _, Nat.le_refl _⟩ dL_law_1272 (fun r1 M1 H1 locs1 h hP1 hD1 hk1 hS1 => ?_)
  obtain ⟨e2, hrel⟩ := h
  have w := LW.stepM C w hP1 hD1 hk1 hS1
  generalize H1 = H, locs1 = locs at w ⊢
  refine lv_icmp_eq (tgt := 1577) C.1.1.1 C.1.1.2.1 dL_law_1275 (by decide) (fun _ => ?_) (fun hc => absurd e2 hc)
  exact hn _ _ _ _ _ hrel w hl
set_option maxHeartbeats 4000000 in
set_option maxRecDepth 100000 in
theorem law_32 {H : Heap} {locs : List Loc} {ls : Array Slot} {i : Nat} (hO : op_ask Rel) (C : LC p s m c b L xs gX gM) (hL : L ≤ 320) (hi : i + 5 ≤ L) (hn : ∀ (X M : Mem) (H : Heap) (locs : List Loc) (ls : Array Slot), Rel X M → LW s gX gM X M H locs → lv_has ls 4 [(0, .ref b), (1, .ref (ga gX 0)), (2, .ref (ga gM 0)), (3, .int (nI i))] → W p l e room_1 s m #[Value.ref b] below meth c H locs 600000 7302250 (lw_Z below #[Value.ref b] s) (F0 m 1577 ls [])) (hR : Rel X M) (w : LW s gX gM X M H locs) (hl : lv_has ls 4 [(0, .ref b), (1, .ref (ga gX 0)), (2, .ref (ga gM 0)), (3, .int (nI i))]) : W p l e room_1 s m #[Value.ref b] below meth c H locs 600000 7302250 (lw_Z below #[Value.ref b] s) (F0 m 1280 ls []) := by
  have h := hO X M (xs (nI i + 1).toNatClampNeg) (xs (nI i + 2).toNatClampNeg) hR
  refine lv_aload_n C.1.1.1 C.1.1.2.1 dL_law_1280 rfl (lv_at hl 1 rfl) ?_
  refine lv_aload_n C.1.1.1 C.1.1.2.1 dL_law_1281 rfl (lv_at hl 0 rfl) ?_
  refine lv_iload_n C.1.1.1 C.1.1.2.1 dL_law_1282 rfl (lv_at hl 3 rfl) ?_
  refine lv_iconst (v := 1) C.1.1.1 C.1.1.2.1 dL_law_1283 (by decide) ?_
  refine lv_iadd C.1.1.1 C.1.1.2.1 dL_law_1284 ?_
  refine va_sld C.1.1.1 C.1.1.2.1 C.2.2.1 C.2.2.2.1 (Nat.not_le.mpr C.2.2.2.1) w.2.2.2.2 (lin hL hi 1 (by decide)) dL_law_1285 ?_
  refine lv_aload_n C.1.1.1 C.1.1.2.1 dL_law_1286 rfl (lv_at hl 0 rfl) ?_
  refine lv_iload_n C.1.1.1 C.1.1.2.1 dL_law_1287 rfl (lv_at hl 3 rfl) ?_
  refine lv_iconst (v := 2) C.1.1.1 C.1.1.2.1 dL_law_1288 (by decide) ?_
  refine lv_iadd C.1.1.1 C.1.1.2.1 dL_law_1289 ?_
  refine va_sld C.1.1.1 C.1.1.2.1 C.2.2.1 C.2.2.2.1 (Nat.not_le.mpr C.2.2.2.1) w.2.2.2.2 (lin hL hi 2 (by decide)) dL_law_1290 ?_
  refine y_calli C.1 w.1 w.2.1 w.2.2.2.2 C.2.2.2.2.1 [.int (xs (nI i + 1).toNatClampNeg), .int (xs (nI i + 2).toNatClampNeg)] (c_X7_ask h) kv_X7_ask kl_64 (va_recv C.1.2.1 w.1 kc_X7.2.1 (wsX0 gX X)) rfl hl.1 (Nat.le_of_ble_eq_true rfl) ⟨Nat.le_of_ble_eq_true rfl, Nat.le_of_ble_eq_true rfl⟩ ⟨Nat.le_refl _, Nat.le_refl _⟩ dL_law_1291 (fun r X1 H1 locs1 h hP1 hD1 hk1 hS1 => ?_)
  have w := LW.stepX C w hP1 hD1 hk1 hS1
  generalize H1 = H, locs1 = locs at w ⊢
  refine lv_aload_n C.1.1.1 C.1.1.2.1 dL_law_1294 rfl (lv_at hl 2 rfl) ?_
  refine lv_aload_n C.1.1.1 C.1.1.2.1 dL_law_1295 rfl (lv_at hl 0 rfl) ?_
  refine lv_iload_n C.1.1.1 C.1.1.2.1 dL_law_1296 rfl (lv_at hl 3 rfl) ?_
  refine lv_iconst (v := 1) C.1.1.1 C.1.1.2.1 dL_law_1297 (by decide) ?_
  refine lv_iadd C.1.1.1 C.1.1.2.1 dL_law_1298 ?_
  refine va_sld C.1.1.1 C.1.1.2.1 C.2.2.1 C.2.2.2.1 (Nat.not_le.mpr C.2.2.2.1) w.2.2.2.2 (lin hL hi 1 (by decide)) dL_law_1299 ?_
  refine lv_aload_n C.1.1.1 C.1.1.2.1 dL_law_1300 rfl (lv_at hl 0 rfl) ?_
  refine lv_iload_n C.1.1.1 C.1.1.2.1 dL_law_1301 rfl (lv_at hl 3 rfl) ?_
  refine lv_iconst (v := 2) C.1.1.1 C.1.1.2.1 dL_law_1302 (by decide) ?_
  refine lv_iadd C.1.1.1 C.1.1.2.1 dL_law_1303 ?_
  refine va_sld C.1.1.1 C.1.1.2.1 C.2.2.1 C.2.2.2.1 (Nat.not_le.mpr C.2.2.2.1) w.2.2.2.2 (lin hL hi 2 (by decide)) dL_law_1304 ?_
  refine y_calli C.2.1 w.2.2.1 w.2.2.2.1 w.2.2.2.2 C.2.2.2.2.2.1 [.int (xs (nI i + 1).toNatClampNeg), .int (xs (nI i + 2).toNatClampNeg)] (c_X8_ask h) kv_X8_ask kl_65 (va_recv C.2.1.2.1 w.2.2.1 kc_X8.2.1 (wsM0 gM M)) rfl hl.1 (Nat.le_of_ble_eq_true rfl) ⟨Nat.le_of_ble_eq_true rfl, Nat.le_of_ble_eq_true rfl⟩ ⟨Nat.le_refl _, Nat.le_refl _⟩ dL_law_1305 (fun r1 M1 H1 locs1 h hP1 hD1 hk1 hS1 => ?_)
  obtain ⟨e2, hrel⟩ := h
  have w := LW.stepM C w hP1 hD1 hk1 hS1
  generalize H1 = H, locs1 = locs at w ⊢
  refine lv_icmp_eq (tgt := 1577) C.1.1.1 C.1.1.2.1 dL_law_1308 (by decide) (fun _ => ?_) (fun hc => absurd e2 hc)
  exact hn _ _ _ _ _ hrel w hl
set_option maxHeartbeats 4000000 in
set_option maxRecDepth 100000 in
theorem law_33 {H : Heap} {locs : List Loc} {ls : Array Slot} {i : Nat} (hO : op_drift Rel) (C : LC p s m c b L xs gX gM) (hL : L ≤ 320) (hi : i + 5 ≤ L) (hn : ∀ (X M : Mem) (H : Heap) (locs : List Loc) (ls : Array Slot), Rel X M → LW s gX gM X M H locs → lv_has ls 4 [(0, .ref b), (1, .ref (ga gX 0)), (2, .ref (ga gM 0)), (3, .int (nI i))] → W p l e room_1 s m #[Value.ref b] below meth c H locs 600000 7302250 (lw_Z below #[Value.ref b] s) (F0 m 1577 ls [])) (hR : Rel X M) (w : LW s gX gM X M H locs) (hl : lv_has ls 4 [(0, .ref b), (1, .ref (ga gX 0)), (2, .ref (ga gM 0)), (3, .int (nI i))]) : W p l e room_1 s m #[Value.ref b] below meth c H locs 600000 7302250 (lw_Z below #[Value.ref b] s) (F0 m 1313 ls []) := by
  have h := hO X M (xs (nI i + 1).toNatClampNeg) (xs (nI i + 2).toNatClampNeg) (xs (nI i + 3).toNatClampNeg) hR
  refine lv_aload_n C.1.1.1 C.1.1.2.1 dL_law_1313 rfl (lv_at hl 1 rfl) ?_
  refine lv_aload_n C.1.1.1 C.1.1.2.1 dL_law_1314 rfl (lv_at hl 0 rfl) ?_
  refine lv_iload_n C.1.1.1 C.1.1.2.1 dL_law_1315 rfl (lv_at hl 3 rfl) ?_
  refine lv_iconst (v := 1) C.1.1.1 C.1.1.2.1 dL_law_1316 (by decide) ?_
  refine lv_iadd C.1.1.1 C.1.1.2.1 dL_law_1317 ?_
  refine va_sld C.1.1.1 C.1.1.2.1 C.2.2.1 C.2.2.2.1 (Nat.not_le.mpr C.2.2.2.1) w.2.2.2.2 (lin hL hi 1 (by decide)) dL_law_1318 ?_
  refine lv_aload_n C.1.1.1 C.1.1.2.1 dL_law_1319 rfl (lv_at hl 0 rfl) ?_
  refine lv_iload_n C.1.1.1 C.1.1.2.1 dL_law_1320 rfl (lv_at hl 3 rfl) ?_
  refine lv_iconst (v := 2) C.1.1.1 C.1.1.2.1 dL_law_1321 (by decide) ?_
  refine lv_iadd C.1.1.1 C.1.1.2.1 dL_law_1322 ?_
  refine va_sld C.1.1.1 C.1.1.2.1 C.2.2.1 C.2.2.2.1 (Nat.not_le.mpr C.2.2.2.1) w.2.2.2.2 (lin hL hi 2 (by decide)) dL_law_1323 ?_
  refine lv_aload_n C.1.1.1 C.1.1.2.1 dL_law_1324 rfl (lv_at hl 0 rfl) ?_
  refine lv_iload_n C.1.1.1 C.1.1.2.1 dL_law_1325 rfl (lv_at hl 3 rfl) ?_
  refine lv_iconst (v := 3) C.1.1.1 C.1.1.2.1 dL_law_1326 (by decide) ?_
  refine lv_iadd C.1.1.1 C.1.1.2.1 dL_law_1327 ?_
  refine va_sld C.1.1.1 C.1.1.2.1 C.2.2.1 C.2.2.2.1 (Nat.not_le.mpr C.2.2.2.1) w.2.2.2.2 (lin hL hi 3 (by decide)) dL_law_1328 ?_
  refine y_calli C.1 w.1 w.2.1 w.2.2.2.2 C.2.2.2.2.1 [.int (xs (nI i + 1).toNatClampNeg), .int (xs (nI i + 2).toNatClampNeg), .int (xs (nI i + 3).toNatClampNeg)] (c_X7_drift h) kv_X7_drift kl_66 (va_recv C.1.2.1 w.1 kc_X7.2.1 (wsX0 gX X)) rfl hl.1 (Nat.le_of_ble_eq_true rfl) ⟨Nat.le_of_ble_eq_true rfl, Nat.le_of_ble_eq_true rfl⟩ ⟨Nat.le_refl _, Nat.le_refl _⟩ dL_law_1329 (fun r X1 H1 locs1 h hP1 hD1 hk1 hS1 => ?_)
  have w := LW.stepX C w hP1 hD1 hk1 hS1
  generalize H1 = H, locs1 = locs at w ⊢
  refine lv_aload_n C.1.1.1 C.1.1.2.1 dL_law_1332 rfl (lv_at hl 2 rfl) ?_
  refine lv_aload_n C.1.1.1 C.1.1.2.1 dL_law_1333 rfl (lv_at hl 0 rfl) ?_
  refine lv_iload_n C.1.1.1 C.1.1.2.1 dL_law_1334 rfl (lv_at hl 3 rfl) ?_
  refine lv_iconst (v := 1) C.1.1.1 C.1.1.2.1 dL_law_1335 (by decide) ?_
  refine lv_iadd C.1.1.1 C.1.1.2.1 dL_law_1336 ?_
  refine va_sld C.1.1.1 C.1.1.2.1 C.2.2.1 C.2.2.2.1 (Nat.not_le.mpr C.2.2.2.1) w.2.2.2.2 (lin hL hi 1 (by decide)) dL_law_1337 ?_
  refine lv_aload_n C.1.1.1 C.1.1.2.1 dL_law_1338 rfl (lv_at hl 0 rfl) ?_
  refine lv_iload_n C.1.1.1 C.1.1.2.1 dL_law_1339 rfl (lv_at hl 3 rfl) ?_
  refine lv_iconst (v := 2) C.1.1.1 C.1.1.2.1 dL_law_1340 (by decide) ?_
  refine lv_iadd C.1.1.1 C.1.1.2.1 dL_law_1341 ?_
  refine va_sld C.1.1.1 C.1.1.2.1 C.2.2.1 C.2.2.2.1 (Nat.not_le.mpr C.2.2.2.1) w.2.2.2.2 (lin hL hi 2 (by decide)) dL_law_1342 ?_
  refine lv_aload_n C.1.1.1 C.1.1.2.1 dL_law_1343 rfl (lv_at hl 0 rfl) ?_
  refine lv_iload_n C.1.1.1 C.1.1.2.1 dL_law_1344 rfl (lv_at hl 3 rfl) ?_
  refine lv_iconst (v := 3) C.1.1.1 C.1.1.2.1 dL_law_1345 (by decide) ?_
  refine lv_iadd C.1.1.1 C.1.1.2.1 dL_law_1346 ?_
  refine va_sld C.1.1.1 C.1.1.2.1 C.2.2.1 C.2.2.2.1 (Nat.not_le.mpr C.2.2.2.1) w.2.2.2.2 (lin hL hi 3 (by decide)) dL_law_1347 ?_
  refine y_calli C.2.1 w.2.2.1 w.2.2.2.1 w.2.2.2.2 C.2.2.2.2.2.1 [.int (xs (nI i + 1).toNatClampNeg), .int (xs (nI i + 2).toNatClampNeg), .int (xs (nI i + 3).toNatClampNeg)] (c_X8_drift h) kv_X8_drift kl_67 (va_recv C.2.1.2.1 w.2.2.1 kc_X8.2.1 (wsM0 gM M)) rfl hl.1 (Nat.le_of_ble_eq_true rfl) ⟨Nat.le_of_ble_eq_true rfl, Nat.le_of_ble_eq_true rfl⟩ ⟨Nat.le_refl _, Nat.le_refl _⟩ dL_law_1348 (fun r1 M1 H1 locs1 h hP1 hD1 hk1 hS1 => ?_)
  obtain ⟨e2, hrel⟩ := h
  have w := LW.stepM C w hP1 hD1 hk1 hS1
  generalize H1 = H, locs1 = locs at w ⊢
  refine lv_icmp_eq (tgt := 1577) C.1.1.1 C.1.1.2.1 dL_law_1351 (by decide) (fun _ => ?_) (fun hc => absurd e2 hc)
  exact hn _ _ _ _ _ hrel w hl
set_option maxHeartbeats 4000000 in
set_option maxRecDepth 100000 in
theorem law_34 {H : Heap} {locs : List Loc} {ls : Array Slot} {i : Nat} (hO : op_keep Rel) (C : LC p s m c b L xs gX gM) (hL : L ≤ 320) (hi : i + 5 ≤ L) (hn : ∀ (X M : Mem) (H : Heap) (locs : List Loc) (ls : Array Slot), Rel X M → LW s gX gM X M H locs → lv_has ls 4 [(0, .ref b), (1, .ref (ga gX 0)), (2, .ref (ga gM 0)), (3, .int (nI i))] → W p l e room_1 s m #[Value.ref b] below meth c H locs 600000 7302250 (lw_Z below #[Value.ref b] s) (F0 m 1577 ls [])) (hR : Rel X M) (w : LW s gX gM X M H locs) (hl : lv_has ls 4 [(0, .ref b), (1, .ref (ga gX 0)), (2, .ref (ga gM 0)), (3, .int (nI i))]) : W p l e room_1 s m #[Value.ref b] below meth c H locs 600000 7302250 (lw_Z below #[Value.ref b] s) (F0 m 1356 ls []) := by
  have h := hO X M (xs (nI i + 1).toNatClampNeg) hR
  refine lv_aload_n C.1.1.1 C.1.1.2.1 dL_law_1356 rfl (lv_at hl 1 rfl) ?_
  refine lv_aload_n C.1.1.1 C.1.1.2.1 dL_law_1357 rfl (lv_at hl 0 rfl) ?_
  refine lv_iload_n C.1.1.1 C.1.1.2.1 dL_law_1358 rfl (lv_at hl 3 rfl) ?_
  refine lv_iconst (v := 1) C.1.1.1 C.1.1.2.1 dL_law_1359 (by decide) ?_
  refine lv_iadd C.1.1.1 C.1.1.2.1 dL_law_1360 ?_
  refine va_sld C.1.1.1 C.1.1.2.1 C.2.2.1 C.2.2.2.1 (Nat.not_le.mpr C.2.2.2.1) w.2.2.2.2 (lin hL hi 1 (by decide)) dL_law_1361 ?_
  refine y_calli C.1 w.1 w.2.1 w.2.2.2.2 C.2.2.2.2.1 [.int (xs (nI i + 1).toNatClampNeg)] (c_X7_keep h) kv_X7_keep kl_68 (va_recv C.1.2.1 w.1 kc_X7.2.1 (wsX0 gX X)) rfl hl.1 (Nat.le_of_ble_eq_true rfl) ⟨Nat.le_of_ble_eq_true rfl, Nat.le_of_ble_eq_true rfl⟩ ⟨Nat.le_refl _, Nat.le_refl _⟩ dL_law_1362 (fun r X1 H1 locs1 h hP1 hD1 hk1 hS1 => ?_)
  have w := LW.stepX C w hP1 hD1 hk1 hS1
  generalize H1 = H, locs1 = locs at w ⊢
  refine lv_aload_n C.1.1.1 C.1.1.2.1 dL_law_1365 rfl (lv_at hl 2 rfl) ?_
  refine lv_aload_n C.1.1.1 C.1.1.2.1 dL_law_1366 rfl (lv_at hl 0 rfl) ?_
  refine lv_iload_n C.1.1.1 C.1.1.2.1 dL_law_1367 rfl (lv_at hl 3 rfl) ?_
  refine lv_iconst (v := 1) C.1.1.1 C.1.1.2.1 dL_law_1368 (by decide) ?_
  refine lv_iadd C.1.1.1 C.1.1.2.1 dL_law_1369 ?_
  refine va_sld C.1.1.1 C.1.1.2.1 C.2.2.1 C.2.2.2.1 (Nat.not_le.mpr C.2.2.2.1) w.2.2.2.2 (lin hL hi 1 (by decide)) dL_law_1370 ?_
  refine y_calli C.2.1 w.2.2.1 w.2.2.2.1 w.2.2.2.2 C.2.2.2.2.2.1 [.int (xs (nI i + 1).toNatClampNeg)] (c_X8_keep h) kv_X8_keep kl_69 (va_recv C.2.1.2.1 w.2.2.1 kc_X8.2.1 (wsM0 gM M)) rfl hl.1 (Nat.le_of_ble_eq_true rfl) ⟨Nat.le_of_ble_eq_true rfl, Nat.le_of_ble_eq_true rfl⟩ ⟨Nat.le_refl _, Nat.le_refl _⟩ dL_law_1371 (fun r1 M1 H1 locs1 h hP1 hD1 hk1 hS1 => ?_)
  obtain ⟨e2, hrel⟩ := h
  have w := LW.stepM C w hP1 hD1 hk1 hS1
  generalize H1 = H, locs1 = locs at w ⊢
  refine lv_icmp_eq (tgt := 1577) C.1.1.1 C.1.1.2.1 dL_law_1374 (by decide) (fun _ => ?_) (fun hc => absurd e2 hc)
  exact hn _ _ _ _ _ hrel w hl
set_option maxHeartbeats 4000000 in
set_option maxRecDepth 100000 in
theorem law_35 {H : Heap} {locs : List Loc} {ls : Array Slot} {i : Nat} (hO : op_back Rel) (C : LC p s m c b L xs gX gM) (hL : L ≤ 320) (hi : i + 5 ≤ L) (hn : ∀ (X M : Mem) (H : Heap) (locs : List Loc) (ls : Array Slot), Rel X M → LW s gX gM X M H locs → lv_has ls 4 [(0, .ref b), (1, .ref (ga gX 0)), (2, .ref (ga gM 0)), (3, .int (nI i))] → W p l e room_1 s m #[Value.ref b] below meth c H locs 600000 7302250 (lw_Z below #[Value.ref b] s) (F0 m 1577 ls [])) (hR : Rel X M) (w : LW s gX gM X M H locs) (hl : lv_has ls 4 [(0, .ref b), (1, .ref (ga gX 0)), (2, .ref (ga gM 0)), (3, .int (nI i))]) : W p l e room_1 s m #[Value.ref b] below meth c H locs 600000 7302250 (lw_Z below #[Value.ref b] s) (F0 m 1379 ls []) := by
  have h := hO X M (xs (nI i + 1).toNatClampNeg) hR
  refine lv_aload_n C.1.1.1 C.1.1.2.1 dL_law_1379 rfl (lv_at hl 1 rfl) ?_
  refine lv_aload_n C.1.1.1 C.1.1.2.1 dL_law_1380 rfl (lv_at hl 0 rfl) ?_
  refine lv_iload_n C.1.1.1 C.1.1.2.1 dL_law_1381 rfl (lv_at hl 3 rfl) ?_
  refine lv_iconst (v := 1) C.1.1.1 C.1.1.2.1 dL_law_1382 (by decide) ?_
  refine lv_iadd C.1.1.1 C.1.1.2.1 dL_law_1383 ?_
  refine va_sld C.1.1.1 C.1.1.2.1 C.2.2.1 C.2.2.2.1 (Nat.not_le.mpr C.2.2.2.1) w.2.2.2.2 (lin hL hi 1 (by decide)) dL_law_1384 ?_
  refine y_calli C.1 w.1 w.2.1 w.2.2.2.2 C.2.2.2.2.1 [.int (xs (nI i + 1).toNatClampNeg)] (c_X7_back h) kv_X7_back kl_70 (va_recv C.1.2.1 w.1 kc_X7.2.1 (wsX0 gX X)) rfl hl.1 (Nat.le_of_ble_eq_true rfl) ⟨Nat.le_of_ble_eq_true rfl, Nat.le_of_ble_eq_true rfl⟩ ⟨Nat.le_refl _, Nat.le_refl _⟩ dL_law_1385 (fun r X1 H1 locs1 h hP1 hD1 hk1 hS1 => ?_)
  have w := LW.stepX C w hP1 hD1 hk1 hS1
  generalize H1 = H, locs1 = locs at w ⊢
  refine lv_aload_n C.1.1.1 C.1.1.2.1 dL_law_1388 rfl (lv_at hl 2 rfl) ?_
  refine lv_aload_n C.1.1.1 C.1.1.2.1 dL_law_1389 rfl (lv_at hl 0 rfl) ?_
  refine lv_iload_n C.1.1.1 C.1.1.2.1 dL_law_1390 rfl (lv_at hl 3 rfl) ?_
  refine lv_iconst (v := 1) C.1.1.1 C.1.1.2.1 dL_law_1391 (by decide) ?_
  refine lv_iadd C.1.1.1 C.1.1.2.1 dL_law_1392 ?_
  refine va_sld C.1.1.1 C.1.1.2.1 C.2.2.1 C.2.2.2.1 (Nat.not_le.mpr C.2.2.2.1) w.2.2.2.2 (lin hL hi 1 (by decide)) dL_law_1393 ?_
  refine y_calli C.2.1 w.2.2.1 w.2.2.2.1 w.2.2.2.2 C.2.2.2.2.2.1 [.int (xs (nI i + 1).toNatClampNeg)] (c_X8_back h) kv_X8_back kl_71 (va_recv C.2.1.2.1 w.2.2.1 kc_X8.2.1 (wsM0 gM M)) rfl hl.1 (Nat.le_of_ble_eq_true rfl) ⟨Nat.le_of_ble_eq_true rfl, Nat.le_of_ble_eq_true rfl⟩ ⟨Nat.le_refl _, Nat.le_refl _⟩ dL_law_1394 (fun r1 M1 H1 locs1 h hP1 hD1 hk1 hS1 => ?_)
  obtain ⟨e2, hrel⟩ := h
  have w := LW.stepM C w hP1 hD1 hk1 hS1
  generalize H1 = H, locs1 = locs at w ⊢
  refine lv_icmp_eq (tgt := 1577) C.1.1.1 C.1.1.2.1 dL_law_1397 (by decide) (fun _ => ?_) (fun hc => absurd e2 hc)
  exact hn _ _ _ _ _ hrel w hl
set_option maxHeartbeats 4000000 in
set_option maxRecDepth 100000 in
theorem law_36 {H : Heap} {locs : List Loc} {ls : Array Slot} {i : Nat} (hO : op_sheet Rel) (C : LC p s m c b L xs gX gM) (hL : L ≤ 320) (hi : i + 5 ≤ L) (hn : ∀ (X M : Mem) (H : Heap) (locs : List Loc) (ls : Array Slot), Rel X M → LW s gX gM X M H locs → lv_has ls 4 [(0, .ref b), (1, .ref (ga gX 0)), (2, .ref (ga gM 0)), (3, .int (nI i))] → W p l e room_1 s m #[Value.ref b] below meth c H locs 600000 7302250 (lw_Z below #[Value.ref b] s) (F0 m 1577 ls [])) (hR : Rel X M) (w : LW s gX gM X M H locs) (hl : lv_has ls 4 [(0, .ref b), (1, .ref (ga gX 0)), (2, .ref (ga gM 0)), (3, .int (nI i))]) : W p l e room_1 s m #[Value.ref b] below meth c H locs 600000 7302250 (lw_Z below #[Value.ref b] s) (F0 m 1402 ls []) := by
  have h := hO X M (xs (nI i + 1).toNatClampNeg) (xs (nI i + 2).toNatClampNeg) (xs (nI i + 3).toNatClampNeg) hR
  refine lv_aload_n C.1.1.1 C.1.1.2.1 dL_law_1402 rfl (lv_at hl 1 rfl) ?_
  refine lv_aload_n C.1.1.1 C.1.1.2.1 dL_law_1403 rfl (lv_at hl 0 rfl) ?_
  refine lv_iload_n C.1.1.1 C.1.1.2.1 dL_law_1404 rfl (lv_at hl 3 rfl) ?_
  refine lv_iconst (v := 1) C.1.1.1 C.1.1.2.1 dL_law_1405 (by decide) ?_
  refine lv_iadd C.1.1.1 C.1.1.2.1 dL_law_1406 ?_
  refine va_sld C.1.1.1 C.1.1.2.1 C.2.2.1 C.2.2.2.1 (Nat.not_le.mpr C.2.2.2.1) w.2.2.2.2 (lin hL hi 1 (by decide)) dL_law_1407 ?_
  refine lv_aload_n C.1.1.1 C.1.1.2.1 dL_law_1408 rfl (lv_at hl 0 rfl) ?_
  refine lv_iload_n C.1.1.1 C.1.1.2.1 dL_law_1409 rfl (lv_at hl 3 rfl) ?_
  refine lv_iconst (v := 2) C.1.1.1 C.1.1.2.1 dL_law_1410 (by decide) ?_
  refine lv_iadd C.1.1.1 C.1.1.2.1 dL_law_1411 ?_
  refine va_sld C.1.1.1 C.1.1.2.1 C.2.2.1 C.2.2.2.1 (Nat.not_le.mpr C.2.2.2.1) w.2.2.2.2 (lin hL hi 2 (by decide)) dL_law_1412 ?_
  refine lv_aload_n C.1.1.1 C.1.1.2.1 dL_law_1413 rfl (lv_at hl 0 rfl) ?_
  refine lv_iload_n C.1.1.1 C.1.1.2.1 dL_law_1414 rfl (lv_at hl 3 rfl) ?_
  refine lv_iconst (v := 3) C.1.1.1 C.1.1.2.1 dL_law_1415 (by decide) ?_
  refine lv_iadd C.1.1.1 C.1.1.2.1 dL_law_1416 ?_
  refine va_sld C.1.1.1 C.1.1.2.1 C.2.2.1 C.2.2.2.1 (Nat.not_le.mpr C.2.2.2.1) w.2.2.2.2 (lin hL hi 3 (by decide)) dL_law_1417 ?_
  refine y_calli C.1 w.1 w.2.1 w.2.2.2.2 C.2.2.2.2.1 [.int (xs (nI i + 1).toNatClampNeg), .int (xs (nI i + 2).toNatClampNeg), .int (xs (nI i + 3).toNatClampNeg)] (c_X7_sheet h) kv_X7_sheet kl_72 (va_recv C.1.2.1 w.1 kc_X7.2.1 (wsX0 gX X)) rfl hl.1 (Nat.le_of_ble_eq_true rfl) ⟨Nat.le_of_ble_eq_true rfl, Nat.le_of_ble_eq_true rfl⟩ ⟨Nat.le_refl _, Nat.le_refl _⟩ dL_law_1418 (fun r X1 H1 locs1 h hP1 hD1 hk1 hS1 => ?_)
  have w := LW.stepX C w hP1 hD1 hk1 hS1
  generalize H1 = H, locs1 = locs at w ⊢
  refine lv_aload_n C.1.1.1 C.1.1.2.1 dL_law_1421 rfl (lv_at hl 2 rfl) ?_
  refine lv_aload_n C.1.1.1 C.1.1.2.1 dL_law_1422 rfl (lv_at hl 0 rfl) ?_
  refine lv_iload_n C.1.1.1 C.1.1.2.1 dL_law_1423 rfl (lv_at hl 3 rfl) ?_
  refine lv_iconst (v := 1) C.1.1.1 C.1.1.2.1 dL_law_1424 (by decide) ?_
  refine lv_iadd C.1.1.1 C.1.1.2.1 dL_law_1425 ?_
  refine va_sld C.1.1.1 C.1.1.2.1 C.2.2.1 C.2.2.2.1 (Nat.not_le.mpr C.2.2.2.1) w.2.2.2.2 (lin hL hi 1 (by decide)) dL_law_1426 ?_
  refine lv_aload_n C.1.1.1 C.1.1.2.1 dL_law_1427 rfl (lv_at hl 0 rfl) ?_
  refine lv_iload_n C.1.1.1 C.1.1.2.1 dL_law_1428 rfl (lv_at hl 3 rfl) ?_
  refine lv_iconst (v := 2) C.1.1.1 C.1.1.2.1 dL_law_1429 (by decide) ?_
  refine lv_iadd C.1.1.1 C.1.1.2.1 dL_law_1430 ?_
  refine va_sld C.1.1.1 C.1.1.2.1 C.2.2.1 C.2.2.2.1 (Nat.not_le.mpr C.2.2.2.1) w.2.2.2.2 (lin hL hi 2 (by decide)) dL_law_1431 ?_
  refine lv_aload_n C.1.1.1 C.1.1.2.1 dL_law_1432 rfl (lv_at hl 0 rfl) ?_
  refine lv_iload_n C.1.1.1 C.1.1.2.1 dL_law_1433 rfl (lv_at hl 3 rfl) ?_
  refine lv_iconst (v := 3) C.1.1.1 C.1.1.2.1 dL_law_1434 (by decide) ?_
  refine lv_iadd C.1.1.1 C.1.1.2.1 dL_law_1435 ?_
  refine va_sld C.1.1.1 C.1.1.2.1 C.2.2.1 C.2.2.2.1 (Nat.not_le.mpr C.2.2.2.1) w.2.2.2.2 (lin hL hi 3 (by decide)) dL_law_1436 ?_
  refine y_calli C.2.1 w.2.2.1 w.2.2.2.1 w.2.2.2.2 C.2.2.2.2.2.1 [.int (xs (nI i + 1).toNatClampNeg), .int (xs (nI i + 2).toNatClampNeg), .int (xs (nI i + 3).toNatClampNeg)] (c_X8_sheet h) kv_X8_sheet kl_73 (va_recv C.2.1.2.1 w.2.2.1 kc_X8.2.1 (wsM0 gM M)) rfl hl.1 (Nat.le_of_ble_eq_true rfl) ⟨Nat.le_of_ble_eq_true rfl, Nat.le_of_ble_eq_true rfl⟩ ⟨Nat.le_refl _, Nat.le_refl _⟩ dL_law_1437 (fun r1 M1 H1 locs1 h hP1 hD1 hk1 hS1 => ?_)
  obtain ⟨e2, hrel⟩ := h
  have w := LW.stepM C w hP1 hD1 hk1 hS1
  generalize H1 = H, locs1 = locs at w ⊢
  refine lv_icmp_eq (tgt := 1577) C.1.1.1 C.1.1.2.1 dL_law_1440 (by decide) (fun _ => ?_) (fun hc => absurd e2 hc)
  exact hn _ _ _ _ _ hrel w hl
set_option maxHeartbeats 4000000 in
set_option maxRecDepth 100000 in
theorem law_37 {H : Heap} {locs : List Loc} {ls : Array Slot} {i : Nat} (hO : op_lay Rel) (C : LC p s m c b L xs gX gM) (hL : L ≤ 320) (hi : i + 5 ≤ L) (hn : ∀ (X M : Mem) (H : Heap) (locs : List Loc) (ls : Array Slot), Rel X M → LW s gX gM X M H locs → lv_has ls 4 [(0, .ref b), (1, .ref (ga gX 0)), (2, .ref (ga gM 0)), (3, .int (nI i))] → W p l e room_1 s m #[Value.ref b] below meth c H locs 600000 7302250 (lw_Z below #[Value.ref b] s) (F0 m 1577 ls [])) (hR : Rel X M) (w : LW s gX gM X M H locs) (hl : lv_has ls 4 [(0, .ref b), (1, .ref (ga gX 0)), (2, .ref (ga gM 0)), (3, .int (nI i))]) : W p l e room_1 s m #[Value.ref b] below meth c H locs 600000 7302250 (lw_Z below #[Value.ref b] s) (F0 m 1445 ls []) := by
  have h := hO X M (xs (nI i + 1).toNatClampNeg) (xs (nI i + 2).toNatClampNeg) (xs (nI i + 3).toNatClampNeg) hR
  refine lv_aload_n C.1.1.1 C.1.1.2.1 dL_law_1445 rfl (lv_at hl 1 rfl) ?_
  refine lv_aload_n C.1.1.1 C.1.1.2.1 dL_law_1446 rfl (lv_at hl 0 rfl) ?_
  refine lv_iload_n C.1.1.1 C.1.1.2.1 dL_law_1447 rfl (lv_at hl 3 rfl) ?_
  refine lv_iconst (v := 1) C.1.1.1 C.1.1.2.1 dL_law_1448 (by decide) ?_
  refine lv_iadd C.1.1.1 C.1.1.2.1 dL_law_1449 ?_
  refine va_sld C.1.1.1 C.1.1.2.1 C.2.2.1 C.2.2.2.1 (Nat.not_le.mpr C.2.2.2.1) w.2.2.2.2 (lin hL hi 1 (by decide)) dL_law_1450 ?_
  refine lv_aload_n C.1.1.1 C.1.1.2.1 dL_law_1451 rfl (lv_at hl 0 rfl) ?_
  refine lv_iload_n C.1.1.1 C.1.1.2.1 dL_law_1452 rfl (lv_at hl 3 rfl) ?_
  refine lv_iconst (v := 2) C.1.1.1 C.1.1.2.1 dL_law_1453 (by decide) ?_
  refine lv_iadd C.1.1.1 C.1.1.2.1 dL_law_1454 ?_
  refine va_sld C.1.1.1 C.1.1.2.1 C.2.2.1 C.2.2.2.1 (Nat.not_le.mpr C.2.2.2.1) w.2.2.2.2 (lin hL hi 2 (by decide)) dL_law_1455 ?_
  refine lv_aload_n C.1.1.1 C.1.1.2.1 dL_law_1456 rfl (lv_at hl 0 rfl) ?_
  refine lv_iload_n C.1.1.1 C.1.1.2.1 dL_law_1457 rfl (lv_at hl 3 rfl) ?_
  refine lv_iconst (v := 3) C.1.1.1 C.1.1.2.1 dL_law_1458 (by decide) ?_
  refine lv_iadd C.1.1.1 C.1.1.2.1 dL_law_1459 ?_
  refine va_sld C.1.1.1 C.1.1.2.1 C.2.2.1 C.2.2.2.1 (Nat.not_le.mpr C.2.2.2.1) w.2.2.2.2 (lin hL hi 3 (by decide)) dL_law_1460 ?_
  refine y_calli C.1 w.1 w.2.1 w.2.2.2.2 C.2.2.2.2.1 [.int (xs (nI i + 1).toNatClampNeg), .int (xs (nI i + 2).toNatClampNeg), .int (xs (nI i + 3).toNatClampNeg)] (c_X7_lay h) kv_X7_lay kl_74 (va_recv C.1.2.1 w.1 kc_X7.2.1 (wsX0 gX X)) rfl hl.1 (Nat.le_of_ble_eq_true rfl) ⟨Nat.le_of_ble_eq_true rfl, Nat.le_of_ble_eq_true rfl⟩ ⟨Nat.le_refl _, Nat.le_refl _⟩ dL_law_1461 (fun r X1 H1 locs1 h hP1 hD1 hk1 hS1 => ?_)
  have w := LW.stepX C w hP1 hD1 hk1 hS1
  generalize H1 = H, locs1 = locs at w ⊢
  refine lv_aload_n C.1.1.1 C.1.1.2.1 dL_law_1464 rfl (lv_at hl 2 rfl) ?_
  refine lv_aload_n C.1.1.1 C.1.1.2.1 dL_law_1465 rfl (lv_at hl 0 rfl) ?_
  refine lv_iload_n C.1.1.1 C.1.1.2.1 dL_law_1466 rfl (lv_at hl 3 rfl) ?_
  refine lv_iconst (v := 1) C.1.1.1 C.1.1.2.1 dL_law_1467 (by decide) ?_
  refine lv_iadd C.1.1.1 C.1.1.2.1 dL_law_1468 ?_
  refine va_sld C.1.1.1 C.1.1.2.1 C.2.2.1 C.2.2.2.1 (Nat.not_le.mpr C.2.2.2.1) w.2.2.2.2 (lin hL hi 1 (by decide)) dL_law_1469 ?_
  refine lv_aload_n C.1.1.1 C.1.1.2.1 dL_law_1470 rfl (lv_at hl 0 rfl) ?_
  refine lv_iload_n C.1.1.1 C.1.1.2.1 dL_law_1471 rfl (lv_at hl 3 rfl) ?_
  refine lv_iconst (v := 2) C.1.1.1 C.1.1.2.1 dL_law_1472 (by decide) ?_
  refine lv_iadd C.1.1.1 C.1.1.2.1 dL_law_1473 ?_
  refine va_sld C.1.1.1 C.1.1.2.1 C.2.2.1 C.2.2.2.1 (Nat.not_le.mpr C.2.2.2.1) w.2.2.2.2 (lin hL hi 2 (by decide)) dL_law_1474 ?_
  refine lv_aload_n C.1.1.1 C.1.1.2.1 dL_law_1475 rfl (lv_at hl 0 rfl) ?_
  refine lv_iload_n C.1.1.1 C.1.1.2.1 dL_law_1476 rfl (lv_at hl 3 rfl) ?_
  refine lv_iconst (v := 3) C.1.1.1 C.1.1.2.1 dL_law_1477 (by decide) ?_
  refine lv_iadd C.1.1.1 C.1.1.2.1 dL_law_1478 ?_
  refine va_sld C.1.1.1 C.1.1.2.1 C.2.2.1 C.2.2.2.1 (Nat.not_le.mpr C.2.2.2.1) w.2.2.2.2 (lin hL hi 3 (by decide)) dL_law_1479 ?_
  refine y_calli C.2.1 w.2.2.1 w.2.2.2.1 w.2.2.2.2 C.2.2.2.2.2.1 [.int (xs (nI i + 1).toNatClampNeg), .int (xs (nI i + 2).toNatClampNeg), .int (xs (nI i + 3).toNatClampNeg)] (c_X8_lay h) kv_X8_lay kl_75 (va_recv C.2.1.2.1 w.2.2.1 kc_X8.2.1 (wsM0 gM M)) rfl hl.1 (Nat.le_of_ble_eq_true rfl) ⟨Nat.le_of_ble_eq_true rfl, Nat.le_of_ble_eq_true rfl⟩ ⟨Nat.le_refl _, Nat.le_refl _⟩ dL_law_1480 (fun r1 M1 H1 locs1 h hP1 hD1 hk1 hS1 => ?_)
  obtain ⟨e2, hrel⟩ := h
  have w := LW.stepM C w hP1 hD1 hk1 hS1
  generalize H1 = H, locs1 = locs at w ⊢
  refine lv_icmp_eq (tgt := 1577) C.1.1.1 C.1.1.2.1 dL_law_1483 (by decide) (fun _ => ?_) (fun hc => absurd e2 hc)
  exact hn _ _ _ _ _ hrel w hl
set_option maxHeartbeats 4000000 in
set_option maxRecDepth 100000 in
theorem law_38 {H : Heap} {locs : List Loc} {ls : Array Slot} {i : Nat} (hO : op_read Rel) (C : LC p s m c b L xs gX gM) (hL : L ≤ 320) (hi : i + 5 ≤ L) (hn : ∀ (X M : Mem) (H : Heap) (locs : List Loc) (ls : Array Slot), Rel X M → LW s gX gM X M H locs → lv_has ls 4 [(0, .ref b), (1, .ref (ga gX 0)), (2, .ref (ga gM 0)), (3, .int (nI i))] → W p l e room_1 s m #[Value.ref b] below meth c H locs 600000 7302250 (lw_Z below #[Value.ref b] s) (F0 m 1577 ls [])) (hR : Rel X M) (w : LW s gX gM X M H locs) (hl : lv_has ls 4 [(0, .ref b), (1, .ref (ga gX 0)), (2, .ref (ga gM 0)), (3, .int (nI i))]) : W p l e room_1 s m #[Value.ref b] below meth c H locs 600000 7302250 (lw_Z below #[Value.ref b] s) (F0 m 1488 ls []) := by
  have h := hO X M (xs (nI i + 1).toNatClampNeg) (xs (nI i + 2).toNatClampNeg) (xs (nI i + 3).toNatClampNeg) (xs (nI i + 4).toNatClampNeg) hR
  refine lv_aload_n C.1.1.1 C.1.1.2.1 dL_law_1488 rfl (lv_at hl 1 rfl) ?_
  refine lv_aload_n C.1.1.1 C.1.1.2.1 dL_law_1489 rfl (lv_at hl 0 rfl) ?_
  refine lv_iload_n C.1.1.1 C.1.1.2.1 dL_law_1490 rfl (lv_at hl 3 rfl) ?_
  refine lv_iconst (v := 1) C.1.1.1 C.1.1.2.1 dL_law_1491 (by decide) ?_
  refine lv_iadd C.1.1.1 C.1.1.2.1 dL_law_1492 ?_
  refine va_sld C.1.1.1 C.1.1.2.1 C.2.2.1 C.2.2.2.1 (Nat.not_le.mpr C.2.2.2.1) w.2.2.2.2 (lin hL hi 1 (by decide)) dL_law_1493 ?_
  refine lv_aload_n C.1.1.1 C.1.1.2.1 dL_law_1494 rfl (lv_at hl 0 rfl) ?_
  refine lv_iload_n C.1.1.1 C.1.1.2.1 dL_law_1495 rfl (lv_at hl 3 rfl) ?_
  refine lv_iconst (v := 2) C.1.1.1 C.1.1.2.1 dL_law_1496 (by decide) ?_
  refine lv_iadd C.1.1.1 C.1.1.2.1 dL_law_1497 ?_
  refine va_sld C.1.1.1 C.1.1.2.1 C.2.2.1 C.2.2.2.1 (Nat.not_le.mpr C.2.2.2.1) w.2.2.2.2 (lin hL hi 2 (by decide)) dL_law_1498 ?_
  refine lv_aload_n C.1.1.1 C.1.1.2.1 dL_law_1499 rfl (lv_at hl 0 rfl) ?_
  refine lv_iload_n C.1.1.1 C.1.1.2.1 dL_law_1500 rfl (lv_at hl 3 rfl) ?_
  refine lv_iconst (v := 3) C.1.1.1 C.1.1.2.1 dL_law_1501 (by decide) ?_
  refine lv_iadd C.1.1.1 C.1.1.2.1 dL_law_1502 ?_
  refine va_sld C.1.1.1 C.1.1.2.1 C.2.2.1 C.2.2.2.1 (Nat.not_le.mpr C.2.2.2.1) w.2.2.2.2 (lin hL hi 3 (by decide)) dL_law_1503 ?_
  refine lv_aload_n C.1.1.1 C.1.1.2.1 dL_law_1504 rfl (lv_at hl 0 rfl) ?_
  refine lv_iload_n C.1.1.1 C.1.1.2.1 dL_law_1505 rfl (lv_at hl 3 rfl) ?_
  refine lv_iconst (v := 4) C.1.1.1 C.1.1.2.1 dL_law_1506 (by decide) ?_
  refine lv_iadd C.1.1.1 C.1.1.2.1 dL_law_1507 ?_
  refine va_sld C.1.1.1 C.1.1.2.1 C.2.2.1 C.2.2.2.1 (Nat.not_le.mpr C.2.2.2.1) w.2.2.2.2 (lin hL hi 4 (by decide)) dL_law_1508 ?_
  refine y_calli C.1 w.1 w.2.1 w.2.2.2.2 C.2.2.2.2.1 [.int (xs (nI i + 1).toNatClampNeg), .int (xs (nI i + 2).toNatClampNeg), .int (xs (nI i + 3).toNatClampNeg), .int (xs (nI i + 4).toNatClampNeg)] (c_X7_read h) kv_X7_read kl_76 (va_recv C.1.2.1 w.1 kc_X7.2.1 (wsX0 gX X)) rfl hl.1 (Nat.le_of_ble_eq_true rfl) ⟨Nat.le_of_ble_eq_true rfl, Nat.le_of_ble_eq_true rfl⟩ ⟨Nat.le_refl _, Nat.le_refl _⟩ dL_law_1509 (fun r X1 H1 locs1 h hP1 hD1 hk1 hS1 => ?_)
  have w := LW.stepX C w hP1 hD1 hk1 hS1
  generalize H1 = H, locs1 = locs at w ⊢
  refine lv_aload_n C.1.1.1 C.1.1.2.1 dL_law_1512 rfl (lv_at hl 2 rfl) ?_
  refine lv_aload_n C.1.1.1 C.1.1.2.1 dL_law_1513 rfl (lv_at hl 0 rfl) ?_
  refine lv_iload_n C.1.1.1 C.1.1.2.1 dL_law_1514 rfl (lv_at hl 3 rfl) ?_
  refine lv_iconst (v := 1) C.1.1.1 C.1.1.2.1 dL_law_1515 (by decide) ?_
  refine lv_iadd C.1.1.1 C.1.1.2.1 dL_law_1516 ?_
  refine va_sld C.1.1.1 C.1.1.2.1 C.2.2.1 C.2.2.2.1 (Nat.not_le.mpr C.2.2.2.1) w.2.2.2.2 (lin hL hi 1 (by decide)) dL_law_1517 ?_
  refine lv_aload_n C.1.1.1 C.1.1.2.1 dL_law_1518 rfl (lv_at hl 0 rfl) ?_
  refine lv_iload_n C.1.1.1 C.1.1.2.1 dL_law_1519 rfl (lv_at hl 3 rfl) ?_
  refine lv_iconst (v := 2) C.1.1.1 C.1.1.2.1 dL_law_1520 (by decide) ?_
  refine lv_iadd C.1.1.1 C.1.1.2.1 dL_law_1521 ?_
  refine va_sld C.1.1.1 C.1.1.2.1 C.2.2.1 C.2.2.2.1 (Nat.not_le.mpr C.2.2.2.1) w.2.2.2.2 (lin hL hi 2 (by decide)) dL_law_1522 ?_
  refine lv_aload_n C.1.1.1 C.1.1.2.1 dL_law_1523 rfl (lv_at hl 0 rfl) ?_
  refine lv_iload_n C.1.1.1 C.1.1.2.1 dL_law_1524 rfl (lv_at hl 3 rfl) ?_
  refine lv_iconst (v := 3) C.1.1.1 C.1.1.2.1 dL_law_1525 (by decide) ?_
  refine lv_iadd C.1.1.1 C.1.1.2.1 dL_law_1526 ?_
  refine va_sld C.1.1.1 C.1.1.2.1 C.2.2.1 C.2.2.2.1 (Nat.not_le.mpr C.2.2.2.1) w.2.2.2.2 (lin hL hi 3 (by decide)) dL_law_1527 ?_
  refine lv_aload_n C.1.1.1 C.1.1.2.1 dL_law_1528 rfl (lv_at hl 0 rfl) ?_
  refine lv_iload_n C.1.1.1 C.1.1.2.1 dL_law_1529 rfl (lv_at hl 3 rfl) ?_
  refine lv_iconst (v := 4) C.1.1.1 C.1.1.2.1 dL_law_1530 (by decide) ?_
  refine lv_iadd C.1.1.1 C.1.1.2.1 dL_law_1531 ?_
  refine va_sld C.1.1.1 C.1.1.2.1 C.2.2.1 C.2.2.2.1 (Nat.not_le.mpr C.2.2.2.1) w.2.2.2.2 (lin hL hi 4 (by decide)) dL_law_1532 ?_
  refine y_calli C.2.1 w.2.2.1 w.2.2.2.1 w.2.2.2.2 C.2.2.2.2.2.1 [.int (xs (nI i + 1).toNatClampNeg), .int (xs (nI i + 2).toNatClampNeg), .int (xs (nI i + 3).toNatClampNeg), .int (xs (nI i + 4).toNatClampNeg)] (c_X8_read h) kv_X8_read kl_77 (va_recv C.2.1.2.1 w.2.2.1 kc_X8.2.1 (wsM0 gM M)) rfl hl.1 (Nat.le_of_ble_eq_true rfl) ⟨Nat.le_of_ble_eq_true rfl, Nat.le_of_ble_eq_true rfl⟩ ⟨Nat.le_refl _, Nat.le_refl _⟩ dL_law_1533 (fun r1 M1 H1 locs1 h hP1 hD1 hk1 hS1 => ?_)
  obtain ⟨e2, hrel⟩ := h
  have w := LW.stepM C w hP1 hD1 hk1 hS1
  generalize H1 = H, locs1 = locs at w ⊢
  refine lv_icmp_eq (tgt := 1577) C.1.1.1 C.1.1.2.1 dL_law_1536 (by decide) (fun _ => ?_) (fun hc => absurd e2 hc)
  exact hn _ _ _ _ _ hrel w hl
set_option maxHeartbeats 4000000 in
set_option maxRecDepth 100000 in
theorem law_39 {H : Heap} {locs : List Loc} {ls : Array Slot} {i : Nat} (hO : op_torn Rel) (C : LC p s m c b L xs gX gM) (hL : L ≤ 320) (hi : i + 5 ≤ L) (hn : ∀ (X M : Mem) (H : Heap) (locs : List Loc) (ls : Array Slot), Rel X M → LW s gX gM X M H locs → lv_has ls 4 [(0, .ref b), (1, .ref (ga gX 0)), (2, .ref (ga gM 0)), (3, .int (nI i))] → W p l e room_1 s m #[Value.ref b] below meth c H locs 600000 7302250 (lw_Z below #[Value.ref b] s) (F0 m 1577 ls [])) (hR : Rel X M) (w : LW s gX gM X M H locs) (hl : lv_has ls 4 [(0, .ref b), (1, .ref (ga gX 0)), (2, .ref (ga gM 0)), (3, .int (nI i))]) : W p l e room_1 s m #[Value.ref b] below meth c H locs 600000 7302250 (lw_Z below #[Value.ref b] s) (F0 m 1541 ls []) := by
  have h := hO X M  hR
  refine lv_aload_n C.1.1.1 C.1.1.2.1 dL_law_1541 rfl (lv_at hl 1 rfl) ?_
  refine y_calli C.1 w.1 w.2.1 w.2.2.2.2 C.2.2.2.2.1 [] (c_X7_torn h) kv_X7_torn kl_78 (va_recv C.1.2.1 w.1 kc_X7.2.1 (wsX0 gX X)) rfl hl.1 (Nat.le_of_ble_eq_true rfl) ⟨Nat.le_of_ble_eq_true rfl, Nat.le_of_ble_eq_true rfl⟩ ⟨Nat.le_refl _, Nat.le_refl _⟩ dL_law_1542 (fun r X1 H1 locs1 h hP1 hD1 hk1 hS1 => ?_)
  obtain ⟨e1, h⟩ := h
  rw [e1] at hP1 hD1
  have w := LW.stepX (X1 := X) C w hP1 hD1 hk1 hS1
  generalize H1 = H, locs1 = locs at w ⊢
  refine lv_aload_n C.1.1.1 C.1.1.2.1 dL_law_1545 rfl (lv_at hl 2 rfl) ?_
  refine y_calli C.2.1 w.2.2.1 w.2.2.2.1 w.2.2.2.2 C.2.2.2.2.2.1 [] (c_X8_torn h) kv_X8_torn kl_79 (va_recv C.2.1.2.1 w.2.2.1 kc_X8.2.1 (wsM0 gM M)) rfl hl.1 (Nat.le_of_ble_eq_true rfl) ⟨Nat.le_of_ble_eq_true rfl, Nat.le_of_ble_eq_true rfl⟩ ⟨Nat.le_refl _, Nat.le_refl _⟩ dL_law_1546 (fun r1 M1 H1 locs1 h hP1 hD1 hk1 hS1 => ?_)
  obtain ⟨e1, e2⟩ := h
  rw [e1] at hP1 hD1
  have w := LW.stepM (M1 := M) C w hP1 hD1 hk1 hS1
  have hrel := hR
  generalize H1 = H, locs1 = locs at w ⊢
  refine lv_icmp_eq (tgt := 1577) C.1.1.1 C.1.1.2.1 dL_law_1549 (by decide) (fun _ => ?_) (fun hc => absurd e2 hc)
  exact hn _ _ _ _ _ hrel w hl
set_option maxHeartbeats 4000000 in
set_option maxRecDepth 100000 in
theorem law_40 {H : Heap} {locs : List Loc} {ls : Array Slot} {i : Nat} (hO : op_count Rel) (C : LC p s m c b L xs gX gM) (hL : L ≤ 320) (hi : i + 5 ≤ L) (hn : ∀ (X M : Mem) (H : Heap) (locs : List Loc) (ls : Array Slot), Rel X M → LW s gX gM X M H locs → lv_has ls 4 [(0, .ref b), (1, .ref (ga gX 0)), (2, .ref (ga gM 0)), (3, .int (nI i))] → W p l e room_1 s m #[Value.ref b] below meth c H locs 600000 7302250 (lw_Z below #[Value.ref b] s) (F0 m 1577 ls [])) (hR : Rel X M) (w : LW s gX gM X M H locs) (hl : lv_has ls 4 [(0, .ref b), (1, .ref (ga gX 0)), (2, .ref (ga gM 0)), (3, .int (nI i))]) : W p l e room_1 s m #[Value.ref b] below meth c H locs 600000 7302250 (lw_Z below #[Value.ref b] s) (F0 m 1554 ls []) := by
  have h := hO X M (xs (nI i + 1).toNatClampNeg) hR
  refine lv_aload_n C.1.1.1 C.1.1.2.1 dL_law_1554 rfl (lv_at hl 1 rfl) ?_
  refine lv_aload_n C.1.1.1 C.1.1.2.1 dL_law_1555 rfl (lv_at hl 0 rfl) ?_
  refine lv_iload_n C.1.1.1 C.1.1.2.1 dL_law_1556 rfl (lv_at hl 3 rfl) ?_
  refine lv_iconst (v := 1) C.1.1.1 C.1.1.2.1 dL_law_1557 (by decide) ?_
  refine lv_iadd C.1.1.1 C.1.1.2.1 dL_law_1558 ?_
  refine va_sld C.1.1.1 C.1.1.2.1 C.2.2.1 C.2.2.2.1 (Nat.not_le.mpr C.2.2.2.1) w.2.2.2.2 (lin hL hi 1 (by decide)) dL_law_1559 ?_
  refine y_calli C.1 w.1 w.2.1 w.2.2.2.2 C.2.2.2.2.1 [.int (xs (nI i + 1).toNatClampNeg)] (c_X7_count h) kv_X7_count kl_80 (va_recv C.1.2.1 w.1 kc_X7.2.1 (wsX0 gX X)) rfl hl.1 (Nat.le_of_ble_eq_true rfl) ⟨Nat.le_of_ble_eq_true rfl, Nat.le_of_ble_eq_true rfl⟩ ⟨Nat.le_refl _, Nat.le_refl _⟩ dL_law_1560 (fun r X1 H1 locs1 h hP1 hD1 hk1 hS1 => ?_)
  obtain ⟨e1, h⟩ := h
  rw [e1] at hP1 hD1
  have w := LW.stepX (X1 := X) C w hP1 hD1 hk1 hS1
  generalize H1 = H, locs1 = locs at w ⊢
  refine lv_aload_n C.1.1.1 C.1.1.2.1 dL_law_1563 rfl (lv_at hl 2 rfl) ?_
  refine lv_aload_n C.1.1.1 C.1.1.2.1 dL_law_1564 rfl (lv_at hl 0 rfl) ?_
  refine lv_iload_n C.1.1.1 C.1.1.2.1 dL_law_1565 rfl (lv_at hl 3 rfl) ?_
  refine lv_iconst (v := 1) C.1.1.1 C.1.1.2.1 dL_law_1566 (by decide) ?_
  refine lv_iadd C.1.1.1 C.1.1.2.1 dL_law_1567 ?_
  refine va_sld C.1.1.1 C.1.1.2.1 C.2.2.1 C.2.2.2.1 (Nat.not_le.mpr C.2.2.2.1) w.2.2.2.2 (lin hL hi 1 (by decide)) dL_law_1568 ?_
  refine y_calli C.2.1 w.2.2.1 w.2.2.2.1 w.2.2.2.2 C.2.2.2.2.2.1 [.int (xs (nI i + 1).toNatClampNeg)] (c_X8_count h) kv_X8_count kl_81 (va_recv C.2.1.2.1 w.2.2.1 kc_X8.2.1 (wsM0 gM M)) rfl hl.1 (Nat.le_of_ble_eq_true rfl) ⟨Nat.le_of_ble_eq_true rfl, Nat.le_of_ble_eq_true rfl⟩ ⟨Nat.le_refl _, Nat.le_refl _⟩ dL_law_1569 (fun r1 M1 H1 locs1 h hP1 hD1 hk1 hS1 => ?_)
  obtain ⟨e1, e2⟩ := h
  rw [e1] at hP1 hD1
  have w := LW.stepM (M1 := M) C w hP1 hD1 hk1 hS1
  have hrel := hR
  generalize H1 = H, locs1 = locs at w ⊢
  refine lv_icmp_eq (tgt := 1577) C.1.1.1 C.1.1.2.1 dL_law_1572 (by decide) (fun _ => ?_) (fun hc => absurd e2 hc)
  exact hn _ _ _ _ _ hrel w hl
end
