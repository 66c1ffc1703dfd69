theorem ca_I_bitCount : E_I_bitCount.all (chk1 9 false prog_10_method_49_code) = true := by decide +kernel
theorem ca_L_law_0 : ((E_L_law).take 40).all (chk1 8 false code) = true := by decide +kernel
theorem ca_L_law_1 : ((E_L_law.drop 40).take 40).all (chk1 8 false code) = true := by decide +kernel
theorem ca_L_law_2 : ((E_L_law.drop 80).take 40).all (chk1 8 false code) = true := by decide +kernel
theorem ca_L_law_3 : ((E_L_law.drop 120).take 40).all (chk1 8 false code) = true := by decide +kernel
theorem ca_L_law_4 : ((E_L_law.drop 160).take 40).all (chk1 8 false code) = true := by decide +kernel
theorem ca_L_law_5 : ((E_L_law.drop 200).take 40).all (chk1 8 false code) = true := by decide +kernel
theorem ca_L_law_6 : ((E_L_law.drop 240).take 40).all (chk1 8 false code) = true := by decide +kernel
theorem ca_L_law_7 : ((E_L_law.drop 280).take 40).all (chk1 8 false code) = true := by decide +kernel
theorem ca_L_law_8 : ((E_L_law.drop 320).take 40).all (chk1 8 false code) = true := by decide +kernel
theorem ca_L_law_9 : ((E_L_law.drop 360).take 40).all (chk1 8 false code) = true := by decide +kernel
theorem ca_L_law_10 : ((E_L_law.drop 400).take 40).all (chk1 8 false code) = true := by decide +kernel
theorem ca_L_law_11 : ((E_L_law.drop 440).take 40).all (chk1 8 false code) = true := by decide +kernel
theorem ca_L_law_12 : ((E_L_law.drop 480).take 40).all (chk1 8 false code) = true := by decide +kernel
theorem ca_L_law_13 : ((E_L_law.drop 520).take 40).all (chk1 8 false code) = true := by decide +kernel
theorem ca_L_law_14 : ((E_L_law.drop 560).take 40).all (chk1 8 false code) = true := by decide +kernel
theorem ca_L_law_15 : ((E_L_law.drop 600).take 40).all (chk1 8 false code) = true := by decide +kernel
theorem ca_L_law_16 : ((E_L_law.drop 640).take 40).all (chk1 8 false code) = true := by decide +kernel
theorem ca_L_law_17 : ((E_L_law.drop 680).take 40).all (chk1 8 false code) = true := by decide +kernel
theorem ca_L_law_18 : ((E_L_law.drop 720).take 40).all (chk1 8 false code) = true := by decide +kernel
theorem ca_L_law_19 : ((E_L_law.drop 760).take 40).all (chk1 8 false code) = true := by decide +kernel
theorem ca_L_law_20 : ((E_L_law.drop 800).take 40).all (chk1 8 false code) = true := by decide +kernel
theorem ca_L_law_21 : ((E_L_law.drop 840).take 40).all (chk1 8 false code) = true := by decide +kernel
theorem ca_L_law_22 : ((E_L_law.drop 880).take 40).all (chk1 8 false code) = true := by decide +kernel
theorem ca_L_law_23 : ((E_L_law.drop 920).take 40).all (chk1 8 false code) = true := by decide +kernel
theorem ca_L_law_24 : ((E_L_law.drop 960).take 40).all (chk1 8 false code) = true := by decide +kernel
theorem ca_L_law_25 : ((E_L_law.drop 1000).take 40).all (chk1 8 false code) = true := by decide +kernel
theorem ca_L_law_26 : ((E_L_law.drop 1040).take 40).all (chk1 8 false code) = true := by decide +kernel
theorem ca_L_law_27 : ((E_L_law.drop 1080).take 40).all (chk1 8 false code) = true := by decide +kernel
theorem ca_L_law_28 : ((E_L_law.drop 1120).take 40).all (chk1 8 false code) = true := by decide +kernel
theorem ca_L_law_29 : ((E_L_law.drop 1160).take 40).all (chk1 8 false code) = true := by decide +kernel
theorem ca_L_law_30 : ((E_L_law.drop 1200).take 40).all (chk1 8 false code) = true := by decide +kernel
theorem ca_L_law_31 : ((E_L_law.drop 1240).take 40).all (chk1 8 false code) = true := by decide +kernel
theorem ca_L_law_32 : (E_L_law.drop 1280).all (chk1 8 false code) = true := by decide +kernel
theorem cb_L_law_31 : (E_L_law.drop 1240).all (chk1 8 false code) = true := all_step _ 40 _ ca_L_law_31 (by rw [List.drop_drop]; exact ca_L_law_32)
theorem cb_L_law_30 : (E_L_law.drop 1200).all (chk1 8 false code) = true := all_step _ 40 _ ca_L_law_30 (by rw [List.drop_drop]; exact cb_L_law_31)
theorem cb_L_law_29 : (E_L_law.drop 1160).all (chk1 8 false code) = true := all_step _ 40 _ ca_L_law_29 (by rw [List.drop_drop]; exact cb_L_law_30)
theorem cb_L_law_28 : (E_L_law.drop 1120).all (chk1 8 false code) = true := all_step _ 40 _ ca_L_law_28 (by rw [List.drop_drop]; exact cb_L_law_29)
theorem cb_L_law_27 : (E_L_law.drop 1080).all (chk1 8 false code) = true := all_step _ 40 _ ca_L_law_27 (by rw [List.drop_drop]; exact cb_L_law_28)
theorem cb_L_law_26 : (E_L_law.drop 1040).all (chk1 8 false code) = true := all_step _ 40 _ ca_L_law_26 (by rw [List.drop_drop]; exact cb_L_law_27)
theorem cb_L_law_25 : (E_L_law.drop 1000).all (chk1 8 false code) = true := all_step _ 40 _ ca_L_law_25 (by rw [List.drop_drop]; exact cb_L_law_26)
theorem cb_L_law_24 : (E_L_law.drop 960).all (chk1 8 false code) = true := all_step _ 40 _ ca_L_law_24 (by rw [List.drop_drop]; exact cb_L_law_25)
theorem cb_L_law_23 : (E_L_law.drop 920).all (chk1 8 false code) = true := all_step _ 40 _ ca_L_law_23 (by rw [List.drop_drop]; exact cb_L_law_24)
theorem cb_L_law_22 : (E_L_law.drop 880).all (chk1 8 false code) = true := all_step _ 40 _ ca_L_law_22 (by rw [List.drop_drop]; exact cb_L_law_23)
theorem cb_L_law_21 : (E_L_law.drop 840).all (chk1 8 false code) = true := all_step _ 40 _ ca_L_law_21 (by rw [List.drop_drop]; exact cb_L_law_22)
theorem cb_L_law_20 : (E_L_law.drop 800).all (chk1 8 false code) = true := all_step _ 40 _ ca_L_law_20 (by rw [List.drop_drop]; exact cb_L_law_21)
theorem cb_L_law_19 : (E_L_law.drop 760).all (chk1 8 false code) = true := all_step _ 40 _ ca_L_law_19 (by rw [List.drop_drop]; exact cb_L_law_20)
theorem cb_L_law_18 : (E_L_law.drop 720).all (chk1 8 false code) = true := all_step _ 40 _ ca_L_law_18 (by rw [List.drop_drop]; exact cb_L_law_19)
theorem cb_L_law_17 : (E_L_law.drop 680).all (chk1 8 false code) = true := all_step _ 40 _ ca_L_law_17 (by rw [List.drop_drop]; exact cb_L_law_18)
theorem cb_L_law_16 : (E_L_law.drop 640).all (chk1 8 false code) = true := all_step _ 40 _ ca_L_law_16 (by rw [List.drop_drop]; exact cb_L_law_17)
theorem cb_L_law_15 : (E_L_law.drop 600).all (chk1 8 false code) = true := all_step _ 40 _ ca_L_law_15 (by rw [List.drop_drop]; exact cb_L_law_16)
theorem cb_L_law_14 : (E_L_law.drop 560).all (chk1 8 false code) = true := all_step _ 40 _ ca_L_law_14 (by rw [List.drop_drop]; exact cb_L_law_15)
theorem cb_L_law_13 : (E_L_law.drop 520).all (chk1 8 false code) = true := all_step _ 40 _ ca_L_law_13 (by rw [List.drop_drop]; exact cb_L_law_14)
theorem cb_L_law_12 : (E_L_law.drop 480).all (chk1 8 false code) = true := all_step _ 40 _ ca_L_law_12 (by rw [List.drop_drop]; exact cb_L_law_13)
theorem cb_L_law_11 : (E_L_law.drop 440).all (chk1 8 false code) = true := all_step _ 40 _ ca_L_law_11 (by rw [List.drop_drop]; exact cb_L_law_12)
theorem cb_L_law_10 : (E_L_law.drop 400).all (chk1 8 false code) = true := all_step _ 40 _ ca_L_law_10 (by rw [List.drop_drop]; exact cb_L_law_11)
theorem cb_L_law_9 : (E_L_law.drop 360).all (chk1 8 false code) = true := all_step _ 40 _ ca_L_law_9 (by rw [List.drop_drop]; exact cb_L_law_10)
theorem cb_L_law_8 : (E_L_law.drop 320).all (chk1 8 false code) = true := all_step _ 40 _ ca_L_law_8 (by rw [List.drop_drop]; exact cb_L_law_9)
theorem cb_L_law_7 : (E_L_law.drop 280).all (chk1 8 false code) = true := all_step _ 40 _ ca_L_law_7 (by rw [List.drop_drop]; exact cb_L_law_8)
theorem cb_L_law_6 : (E_L_law.drop 240).all (chk1 8 false code) = true := all_step _ 40 _ ca_L_law_6 (by rw [List.drop_drop]; exact cb_L_law_7)
theorem cb_L_law_5 : (E_L_law.drop 200).all (chk1 8 false code) = true := all_step _ 40 _ ca_L_law_5 (by rw [List.drop_drop]; exact cb_L_law_6)
theorem cb_L_law_4 : (E_L_law.drop 160).all (chk1 8 false code) = true := all_step _ 40 _ ca_L_law_4 (by rw [List.drop_drop]; exact cb_L_law_5)
theorem cb_L_law_3 : (E_L_law.drop 120).all (chk1 8 false code) = true := all_step _ 40 _ ca_L_law_3 (by rw [List.drop_drop]; exact cb_L_law_4)
theorem cb_L_law_2 : (E_L_law.drop 80).all (chk1 8 false code) = true := all_step _ 40 _ ca_L_law_2 (by rw [List.drop_drop]; exact cb_L_law_3)
theorem cb_L_law_1 : (E_L_law.drop 40).all (chk1 8 false code) = true := all_step _ 40 _ ca_L_law_1 (by rw [List.drop_drop]; exact cb_L_law_2)
theorem ca_L_law : E_L_law.all (chk1 8 false code) = true := all_step _ 40 _ ca_L_law_0 cb_L_law_1
