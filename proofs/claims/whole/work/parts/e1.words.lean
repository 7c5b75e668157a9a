/-! Every word of mine stands in the tables. -/
def ew_ok : List Cond → List Nat → Bool
  | [], _ => true
  | w :: ws, k :: ks => decide (lw_tbl[k]? = some w) && ew_ok ws ks
  | _ :: _, [] => false
theorem ew_mem : ∀ (ws : List Cond) (ks : List Nat), ew_ok ws ks = true → ∀ w ∈ ws, w ∈ lw_tbl
  | [], _, _, _, h => by cases h
  | v :: ws, k :: ks, h, w, hw => by
    unfold ew_ok at h
    rw [Bool.and_eq_true, decide_eq_true_eq] at h
    rcases List.mem_cons.mp hw with q | q
    · rw [q]; exact List.mem_of_getElem? h.1
    · exact ew_mem ws ks h.2 w q
  | _ :: _, [], h, _, _ => by cases h
def ew_c (w : Cond) : Bool := match w with
  | .code _ _ _ _ => true
  | .codeSync _ _ _ _ => true
  | _ => false
theorem ew_two {ws : List Cond} {ks : List Nat} (h : ew_ok (ws.filter (fun w => !ew_c w)) ks = true) (hc : ∀ w ∈ ws.filter ew_c, w ∈ lw_tbl) : ∀ w ∈ ws, w ∈ lw_tbl := by
  intro w hw
  cases e : ew_c w with
  | true => exact hc w (List.mem_filter.mpr ⟨hw, e⟩)
  | false => exact ew_mem _ _ h w (List.mem_filter.mpr ⟨hw, by rw [e]; rfl⟩)
theorem ew_s1 {w : Cond} (h : w ∈ tables_1_1) : w ∈ lw_tbl := List.mem_append_right _ (List.mem_append_left _ h)
theorem ew_s2 {w : Cond} (h : w ∈ tables_1_2) : w ∈ lw_tbl := List.mem_append_right _ (List.mem_append_right _ (List.mem_append_left _ h))
theorem ew_s3 {w : Cond} (h : w ∈ tables_1_3) : w ∈ lw_tbl := List.mem_append_right _ (List.mem_append_right _ (List.mem_append_right _ (List.mem_append_left _ h)))
theorem ew_s4 {w : Cond} (h : w ∈ tables_1_4) : w ∈ lw_tbl := List.mem_append_right _ (List.mem_append_right _ (List.mem_append_right _ (List.mem_append_right _ (List.mem_append_left _ h))))
theorem ew_s5 {w : Cond} (h : w ∈ tables_1_5) : w ∈ lw_tbl := List.mem_append_right _ (List.mem_append_right _ (List.mem_append_right _ (List.mem_append_right _ (List.mem_append_right _ h))))
theorem ew_k2 : Cond.code (oe_y 2) (oe_by 2) (oe_ml 2) (oe_ret 2) ∈ lw_tbl := ew_s1 (List.mem_of_getElem? (i := 27) rfl)
theorem ew_k3 : Cond.code (oe_y 3) (oe_by 3) (oe_ml 3) (oe_ret 3) ∈ lw_tbl := ew_s1 (List.mem_of_getElem? (i := 227) rfl)
theorem ew_k4 : Cond.code (oe_y 4) (oe_by 4) (oe_ml 4) (oe_ret 4) ∈ lw_tbl := ew_s1 (List.mem_of_getElem? (i := 231) rfl)
theorem ew_k6 : Cond.code (oe_y 6) (oe_by 6) (oe_ml 6) (oe_ret 6) ∈ lw_tbl := ew_s1 (List.mem_of_getElem? (i := 235) rfl)
theorem ew_k7 : Cond.code (oe_y 7) (oe_by 7) (oe_ml 7) (oe_ret 7) ∈ lw_tbl := ew_s2 (List.mem_of_getElem? (i := 183) rfl)
theorem ew_k11 : Cond.code (oe_y 11) (oe_by 11) (oe_ml 11) (oe_ret 11) ∈ lw_tbl := ew_s3 (List.mem_of_getElem? (i := 80) rfl)
theorem ew_k12 : Cond.code (oe_y 12) (oe_by 12) (oe_ml 12) (oe_ret 12) ∈ lw_tbl := ew_s3 (List.mem_of_getElem? (i := 85) rfl)
theorem ew_k13 : Cond.code (oe_y 13) (oe_by 13) (oe_ml 13) (oe_ret 13) ∈ lw_tbl := ew_s3 (List.mem_of_getElem? (i := 120) rfl)
theorem ew_k14 : Cond.code (oe_y 14) (oe_by 14) (oe_ml 14) (oe_ret 14) ∈ lw_tbl := ew_s3 (List.mem_of_getElem? (i := 124) rfl)
theorem ew_k15 : Cond.code (oe_y 15) (oe_by 15) (oe_ml 15) (oe_ret 15) ∈ lw_tbl := ew_s3 (List.mem_of_getElem? (i := 128) rfl)
theorem ew_k16 : Cond.code (oe_y 16) (oe_by 16) (oe_ml 16) (oe_ret 16) ∈ lw_tbl := ew_s2 (List.mem_of_getElem? (i := 97) rfl)
theorem ew_k17 : Cond.code (oe_y 17) (oe_by 17) (oe_ml 17) (oe_ret 17) ∈ lw_tbl := ew_s2 (List.mem_of_getElem? (i := 104) rfl)
theorem ew_k18 : Cond.code (oe_y 18) (oe_by 18) (oe_ml 18) (oe_ret 18) ∈ lw_tbl := ew_s1 (List.mem_of_getElem? (i := 239) rfl)
theorem ew_k19 : Cond.code (oe_y 19) (oe_by 19) (oe_ml 19) (oe_ret 19) ∈ lw_tbl := ew_s3 (List.mem_of_getElem? (i := 93) rfl)
theorem ew_k20 : Cond.code (oe_y 20) (oe_by 20) (oe_ml 20) (oe_ret 20) ∈ lw_tbl := ew_s4 (List.mem_of_getElem? (i := 7) rfl)
theorem ew_k21 : Cond.code (oe_y 21) (oe_by 21) (oe_ml 21) (oe_ret 21) ∈ lw_tbl := ew_s2 (List.mem_of_getElem? (i := 173) rfl)
theorem ew_k22 : Cond.code (oe_y 22) (oe_by 22) (oe_ml 22) (oe_ret 22) ∈ lw_tbl := ew_s2 (List.mem_of_getElem? (i := 123) rfl)
theorem ew_k23 : Cond.code (oe_y 23) (oe_by 23) (oe_ml 23) (oe_ret 23) ∈ lw_tbl := ew_s2 (List.mem_of_getElem? (i := 187) rfl)
theorem ew_k24 : Cond.code (oe_y 24) (oe_by 24) (oe_ml 24) (oe_ret 24) ∈ lw_tbl := ew_s2 (List.mem_of_getElem? (i := 201) rfl)
theorem ew_k25 : Cond.code (oe_y 25) (oe_by 25) (oe_ml 25) (oe_ret 25) ∈ lw_tbl := ew_s2 (List.mem_of_getElem? (i := 214) rfl)
theorem ew_k26 : Cond.code (oe_y 26) (oe_by 26) (oe_ml 26) (oe_ret 26) ∈ lw_tbl := ew_s2 (List.mem_of_getElem? (i := 236) rfl)
theorem ew_k27 : Cond.code (oe_y 27) (oe_by 27) (oe_ml 27) (oe_ret 27) ∈ lw_tbl := ew_s3 (List.mem_of_getElem? (i := 67) rfl)
theorem ew_k28 : Cond.code (oe_y 28) (oe_by 28) (oe_ml 28) (oe_ret 28) ∈ lw_tbl := ew_s4 (List.mem_of_getElem? (i := 28) rfl)
theorem ew_k29 : Cond.code (oe_y 29) (oe_by 29) (oe_ml 29) (oe_ret 29) ∈ lw_tbl := ew_s4 (List.mem_of_getElem? (i := 169) rfl)
theorem ew_k30 : Cond.code (oe_y 30) (oe_by 30) (oe_ml 30) (oe_ret 30) ∈ lw_tbl := ew_s4 (List.mem_of_getElem? (i := 173) rfl)
theorem ew_k31 : Cond.code (oe_y 31) (oe_by 31) (oe_ml 31) (oe_ret 31) ∈ lw_tbl := ew_s4 (List.mem_of_getElem? (i := 177) rfl)
theorem ew_k32 : Cond.code (oe_y 32) (oe_by 32) (oe_ml 32) (oe_ret 32) ∈ lw_tbl := ew_s4 (List.mem_of_getElem? (i := 188) rfl)
theorem ew_k33 : Cond.code (oe_y 33) (oe_by 33) (oe_ml 33) (oe_ret 33) ∈ lw_tbl := ew_s5 (List.mem_of_getElem? (i := 125) rfl)
theorem ew_k34 : Cond.code (oe_y 34) (oe_by 34) (oe_ml 34) (oe_ret 34) ∈ lw_tbl := ew_s4 (List.mem_of_getElem? (i := 194) rfl)
theorem ew_k35 : Cond.code (oe_y 35) (oe_by 35) (oe_ml 35) (oe_ret 35) ∈ lw_tbl := ew_s4 (List.mem_of_getElem? (i := 191) rfl)
theorem ew_k36 : Cond.code (oe_y 36) (oe_by 36) (oe_ml 36) (oe_ret 36) ∈ lw_tbl := ew_s4 (List.mem_of_getElem? (i := 185) rfl)
theorem ew_k37 : Cond.code (oe_y 37) (oe_by 37) (oe_ml 37) (oe_ret 37) ∈ lw_tbl := ew_s5 (List.mem_of_getElem? (i := 26) rfl)
theorem ew_k38 : Cond.code (oe_y 38) (oe_by 38) (oe_ml 38) (oe_ret 38) ∈ lw_tbl := ew_s5 (List.mem_of_getElem? (i := 22) rfl)
theorem ew_k39 : Cond.code (oe_y 39) (oe_by 39) (oe_ml 39) (oe_ret 39) ∈ lw_tbl := ew_s5 (List.mem_of_getElem? (i := 30) rfl)
theorem ew_k40 : Cond.code (oe_y 40) (oe_by 40) (oe_ml 40) (oe_ret 40) ∈ lw_tbl := ew_s5 (List.mem_of_getElem? (i := 34) rfl)
theorem ew_k41 : Cond.code (oe_y 41) (oe_by 41) (oe_ml 41) (oe_ret 41) ∈ lw_tbl := ew_s5 (List.mem_of_getElem? (i := 18) rfl)
theorem ew_k42 : Cond.code (oe_y 42) (oe_by 42) (oe_ml 42) (oe_ret 42) ∈ lw_tbl := ew_s5 (List.mem_of_getElem? (i := 14) rfl)
theorem ew_k43 : Cond.code (oe_y 43) (oe_by 43) (oe_ml 43) (oe_ret 43) ∈ lw_tbl := ew_s4 (List.mem_of_getElem? (i := 234) rfl)
theorem ew_k44 : Cond.code (oe_y 44) (oe_by 44) (oe_ml 44) (oe_ret 44) ∈ lw_tbl := ew_s4 (List.mem_of_getElem? (i := 238) rfl)
theorem ew_k45 : Cond.code (oe_y 45) (oe_by 45) (oe_ml 45) (oe_ret 45) ∈ lw_tbl := ew_s5 (List.mem_of_getElem? (i := 2) rfl)
theorem ew_k46 : Cond.code (oe_y 46) (oe_by 46) (oe_ml 46) (oe_ret 46) ∈ lw_tbl := ew_s5 (List.mem_of_getElem? (i := 6) rfl)
theorem ew_k47 : Cond.code (oe_y 47) (oe_by 47) (oe_ml 47) (oe_ret 47) ∈ lw_tbl := ew_s5 (List.mem_of_getElem? (i := 10) rfl)
theorem ew_k48 : Cond.code (oe_y 48) (oe_by 48) (oe_ml 48) (oe_ret 48) ∈ lw_tbl := ew_s5 (List.mem_of_getElem? (i := 38) rfl)
theorem ew_k49 : Cond.code (oe_y 49) (oe_by 49) (oe_ml 49) (oe_ret 49) ∈ lw_tbl := ew_s4 (List.mem_of_getElem? (i := 230) rfl)
theorem ew_k50 : Cond.code (oe_y 50) (oe_by 50) (oe_ml 50) (oe_ret 50) ∈ lw_tbl := ew_s4 (List.mem_of_getElem? (i := 226) rfl)
theorem ew_k51 : Cond.code (oe_y 51) (oe_by 51) (oe_ml 51) (oe_ret 51) ∈ lw_tbl := ew_s4 (List.mem_of_getElem? (i := 222) rfl)
theorem ew_k52 : Cond.code (oe_y 52) (oe_by 52) (oe_ml 52) (oe_ret 52) ∈ lw_tbl := ew_s5 (List.mem_of_getElem? (i := 46) rfl)
theorem ew_k53 : Cond.code (oe_y 53) (oe_by 53) (oe_ml 53) (oe_ret 53) ∈ lw_tbl := ew_s4 (List.mem_of_getElem? (i := 206) rfl)
theorem ew_k54 : Cond.code (oe_y 54) (oe_by 54) (oe_ml 54) (oe_ret 54) ∈ lw_tbl := ew_s4 (List.mem_of_getElem? (i := 202) rfl)
theorem ew_k55 : Cond.code (oe_y 55) (oe_by 55) (oe_ml 55) (oe_ret 55) ∈ lw_tbl := ew_s5 (List.mem_of_getElem? (i := 66) rfl)
theorem ew_k56 : Cond.code (oe_y 56) (oe_by 56) (oe_ml 56) (oe_ret 56) ∈ lw_tbl := ew_s5 (List.mem_of_getElem? (i := 62) rfl)
theorem ew_k57 : Cond.code (oe_y 57) (oe_by 57) (oe_ml 57) (oe_ret 57) ∈ lw_tbl := ew_s4 (List.mem_of_getElem? (i := 210) rfl)
theorem ew_k58 : Cond.code (oe_y 58) (oe_by 58) (oe_ml 58) (oe_ret 58) ∈ lw_tbl := ew_s5 (List.mem_of_getElem? (i := 82) rfl)
theorem ew_k59 : Cond.code (oe_y 59) (oe_by 59) (oe_ml 59) (oe_ret 59) ∈ lw_tbl := ew_s5 (List.mem_of_getElem? (i := 90) rfl)
theorem ew_k60 : Cond.code (oe_y 60) (oe_by 60) (oe_ml 60) (oe_ret 60) ∈ lw_tbl := ew_s5 (List.mem_of_getElem? (i := 94) rfl)
theorem ew_k61 : Cond.code (oe_y 61) (oe_by 61) (oe_ml 61) (oe_ret 61) ∈ lw_tbl := ew_s5 (List.mem_of_getElem? (i := 86) rfl)
theorem ew_k62 : Cond.code (oe_y 62) (oe_by 62) (oe_ml 62) (oe_ret 62) ∈ lw_tbl := ew_s5 (List.mem_of_getElem? (i := 78) rfl)
theorem ew_k63 : Cond.code (oe_y 63) (oe_by 63) (oe_ml 63) (oe_ret 63) ∈ lw_tbl := ew_s5 (List.mem_of_getElem? (i := 98) rfl)
theorem ew_k64 : Cond.code (oe_y 64) (oe_by 64) (oe_ml 64) (oe_ret 64) ∈ lw_tbl := ew_s5 (List.mem_of_getElem? (i := 102) rfl)
theorem ew_k65 : Cond.code (oe_y 65) (oe_by 65) (oe_ml 65) (oe_ret 65) ∈ lw_tbl := ew_s5 (List.mem_of_getElem? (i := 74) rfl)
theorem ew_k66 : Cond.code (oe_y 66) (oe_by 66) (oe_ml 66) (oe_ret 66) ∈ lw_tbl := ew_s5 (List.mem_of_getElem? (i := 106) rfl)
theorem ew_k67 : Cond.code (oe_y 67) (oe_by 67) (oe_ml 67) (oe_ret 67) ∈ lw_tbl := ew_s5 (List.mem_of_getElem? (i := 70) rfl)
theorem ew_k68 : Cond.code (oe_y 68) (oe_by 68) (oe_ml 68) (oe_ret 68) ∈ lw_tbl := ew_s5 (List.mem_of_getElem? (i := 42) rfl)
theorem ew_k69 : Cond.code (oe_y 69) (oe_by 69) (oe_ml 69) (oe_ret 69) ∈ lw_tbl := ew_s4 (List.mem_of_getElem? (i := 218) rfl)
theorem ew_k70 : Cond.code (oe_y 70) (oe_by 70) (oe_ml 70) (oe_ret 70) ∈ lw_tbl := ew_s5 (List.mem_of_getElem? (i := 58) rfl)
theorem ew_k71 : Cond.code (oe_y 71) (oe_by 71) (oe_ml 71) (oe_ret 71) ∈ lw_tbl := ew_s5 (List.mem_of_getElem? (i := 54) rfl)
theorem ew_k72 : Cond.code (oe_y 72) (oe_by 72) (oe_ml 72) (oe_ret 72) ∈ lw_tbl := ew_s4 (List.mem_of_getElem? (i := 198) rfl)
theorem ew_k73 : Cond.code (oe_y 73) (oe_by 73) (oe_ml 73) (oe_ret 73) ∈ lw_tbl := ew_s4 (List.mem_of_getElem? (i := 181) rfl)
theorem ew_k74 : Cond.code (oe_y 74) (oe_by 74) (oe_ml 74) (oe_ret 74) ∈ lw_tbl := ew_s4 (List.mem_of_getElem? (i := 214) rfl)
theorem ew_k75 : Cond.code (oe_y 75) (oe_by 75) (oe_ml 75) (oe_ret 75) ∈ lw_tbl := ew_s5 (List.mem_of_getElem? (i := 50) rfl)
theorem ew_k76 : Cond.code (oe_y 76) (oe_by 76) (oe_ml 76) (oe_ret 76) ∈ lw_tbl := ew_s5 (List.mem_of_getElem? (i := 110) rfl)
theorem ew_k77 : Cond.code (oe_y 77) (oe_by 77) (oe_ml 77) (oe_ret 77) ∈ lw_tbl := ew_s5 (List.mem_of_getElem? (i := 114) rfl)
theorem ew_k78 : Cond.code (oe_y 78) (oe_by 78) (oe_ml 78) (oe_ret 78) ∈ lw_tbl := ew_s5 (List.mem_of_getElem? (i := 122) rfl)
theorem ew_k79 : Cond.code (oe_y 79) (oe_by 79) (oe_ml 79) (oe_ret 79) ∈ lw_tbl := ew_s5 (List.mem_of_getElem? (i := 118) rfl)
theorem ew_k80 : Cond.code (oe_y 80) (oe_by 80) (oe_ml 80) (oe_ret 80) ∈ lw_tbl := ew_s5 (List.mem_of_getElem? (i := 129) rfl)
theorem ew_k81 : Cond.code (oe_y 81) (oe_by 81) (oe_ml 81) (oe_ret 81) ∈ lw_tbl := ew_s5 (List.mem_of_getElem? (i := 133) rfl)
theorem ew_k82 : Cond.code (oe_y 82) (oe_by 82) (oe_ml 82) (oe_ret 82) ∈ lw_tbl := ew_s5 (List.mem_of_getElem? (i := 137) rfl)
theorem ew_k83 : Cond.code (oe_y 83) (oe_by 83) (oe_ml 83) (oe_ret 83) ∈ lw_tbl := ew_s5 (List.mem_of_getElem? (i := 141) rfl)
theorem ew_k84 : Cond.code (oe_y 84) (oe_by 84) (oe_ml 84) (oe_ret 84) ∈ lw_tbl := ew_s5 (List.mem_of_getElem? (i := 145) rfl)
theorem ew_k85 : Cond.code (oe_y 85) (oe_by 85) (oe_ml 85) (oe_ret 85) ∈ lw_tbl := ew_s1 (List.mem_of_getElem? (i := 101) rfl)
theorem ew_k86 : Cond.code (oe_y 86) (oe_by 86) (oe_ml 86) (oe_ret 86) ∈ lw_tbl := ew_s2 (List.mem_of_getElem? (i := 222) rfl)
theorem ew_k87 : Cond.code (oe_y 87) (oe_by 87) (oe_ml 87) (oe_ret 87) ∈ lw_tbl := ew_s2 (List.mem_of_getElem? (i := 226) rfl)
theorem ew_k88 : Cond.code (oe_y 88) (oe_by 88) (oe_ml 88) (oe_ret 88) ∈ lw_tbl := ew_s2 (List.mem_of_getElem? (i := 127) rfl)
theorem ew_k89 : Cond.code (oe_y 89) (oe_by 89) (oe_ml 89) (oe_ret 89) ∈ lw_tbl := ew_s2 (List.mem_of_getElem? (i := 131) rfl)
theorem ew_k90 : Cond.code (oe_y 90) (oe_by 90) (oe_ml 90) (oe_ret 90) ∈ lw_tbl := ew_s2 (List.mem_of_getElem? (i := 139) rfl)
theorem ew_k91 : Cond.code (oe_y 91) (oe_by 91) (oe_ml 91) (oe_ret 91) ∈ lw_tbl := ew_s2 (List.mem_of_getElem? (i := 150) rfl)
theorem ew_k92 : Cond.code (oe_y 92) (oe_by 92) (oe_ml 92) (oe_ret 92) ∈ lw_tbl := ew_s1 (List.mem_of_getElem? (i := 42) rfl)
theorem ew_k93 : Cond.code (oe_y 93) (oe_by 93) (oe_ml 93) (oe_ret 93) ∈ lw_tbl := ew_s2 (List.mem_of_getElem? (i := 135) rfl)
theorem ew_k94 : Cond.code (oe_y 94) (oe_by 94) (oe_ml 94) (oe_ret 94) ∈ lw_tbl := ew_s2 (List.mem_of_getElem? (i := 195) rfl)
theorem ew_k95 : Cond.code (oe_y 95) (oe_by 95) (oe_ml 95) (oe_ret 95) ∈ lw_tbl := ew_s2 (List.mem_of_getElem? (i := 112) rfl)
theorem ew_k96 : Cond.code (oe_y 96) (oe_by 96) (oe_ml 96) (oe_ret 96) ∈ lw_tbl := ew_s2 (List.mem_of_getElem? (i := 177) rfl)
theorem ew_k97 : Cond.code (oe_y 97) (oe_by 97) (oe_ml 97) (oe_ret 97) ∈ lw_tbl := ew_s2 (List.mem_of_getElem? (i := 218) rfl)
theorem ew_k98 : Cond.code (oe_y 98) (oe_by 98) (oe_ml 98) (oe_ret 98) ∈ lw_tbl := ew_s2 (List.mem_of_getElem? (i := 205) rfl)
theorem ew_k99 : Cond.code (oe_y 99) (oe_by 99) (oe_ml 99) (oe_ret 99) ∈ lw_tbl := ew_s1 (List.mem_of_getElem? (i := 48) rfl)
theorem ew_k100 : Cond.code (oe_y 100) (oe_by 100) (oe_ml 100) (oe_ret 100) ∈ lw_tbl := ew_s2 (List.mem_of_getElem? (i := 3) rfl)
theorem ew_k101 : Cond.code (oe_y 101) (oe_by 101) (oe_ml 101) (oe_ret 101) ∈ lw_tbl := ew_s2 (List.mem_of_getElem? (i := 101) rfl)
theorem ew_k102 : Cond.code (oe_y 102) (oe_by 102) (oe_ml 102) (oe_ret 102) ∈ lw_tbl := ew_s3 (List.mem_of_getElem? (i := 16) rfl)
theorem ew_k103 : Cond.code (oe_y 103) (oe_by 103) (oe_ml 103) (oe_ret 103) ∈ lw_tbl := ew_s2 (List.mem_of_getElem? (i := 108) rfl)
theorem ew_k104 : Cond.code (oe_y 104) (oe_by 104) (oe_ml 104) (oe_ret 104) ∈ lw_tbl := ew_s2 (List.mem_of_getElem? (i := 116) rfl)
theorem ew_k105 : Cond.code (oe_y 105) (oe_by 105) (oe_ml 105) (oe_ret 105) ∈ lw_tbl := ew_s2 (List.mem_of_getElem? (i := 168) rfl)
theorem ew_k106 : Cond.code (oe_y 106) (oe_by 106) (oe_ml 106) (oe_ret 106) ∈ lw_tbl := ew_s2 (List.mem_of_getElem? (i := 161) rfl)
theorem ew_k107 : Cond.code (oe_y 107) (oe_by 107) (oe_ml 107) (oe_ret 107) ∈ lw_tbl := ew_s2 (List.mem_of_getElem? (i := 232) rfl)
theorem ew_k108 : Cond.code (oe_y 108) (oe_by 108) (oe_ml 108) (oe_ret 108) ∈ lw_tbl := ew_s2 (List.mem_of_getElem? (i := 210) rfl)
theorem ew_k109 : Cond.code (oe_y 109) (oe_by 109) (oe_ml 109) (oe_ret 109) ∈ lw_tbl := ew_s2 (List.mem_of_getElem? (i := 146) rfl)
theorem ew_k110 : Cond.code (oe_y 110) (oe_by 110) (oe_ml 110) (oe_ret 110) ∈ lw_tbl := ew_s2 (List.mem_of_getElem? (i := 156) rfl)
theorem ew_k111 : Cond.code (oe_y 111) (oe_by 111) (oe_ml 111) (oe_ret 111) ∈ lw_tbl := ew_s1 (List.mem_of_getElem? (i := 130) rfl)
theorem ew_k112 : Cond.code (oe_y 112) (oe_by 112) (oe_ml 112) (oe_ret 112) ∈ lw_tbl := ew_s3 (List.mem_of_getElem? (i := 1) rfl)
theorem ew_k113 : Cond.code (oe_y 113) (oe_by 113) (oe_ml 113) (oe_ret 113) ∈ lw_tbl := ew_s3 (List.mem_of_getElem? (i := 56) rfl)
theorem ew_k114 : Cond.code (oe_y 114) (oe_by 114) (oe_ml 114) (oe_ret 114) ∈ lw_tbl := ew_s1 (List.mem_of_getElem? (i := 136) rfl)
theorem ew_k115 : Cond.code (oe_y 115) (oe_by 115) (oe_ml 115) (oe_ret 115) ∈ lw_tbl := ew_s3 (List.mem_of_getElem? (i := 7) rfl)
theorem ew_k116 : Cond.code (oe_y 116) (oe_by 116) (oe_ml 116) (oe_ret 116) ∈ lw_tbl := ew_s3 (List.mem_of_getElem? (i := 12) rfl)
theorem ew_k117 : Cond.code (oe_y 117) (oe_by 117) (oe_ml 117) (oe_ret 117) ∈ lw_tbl := ew_s3 (List.mem_of_getElem? (i := 22) rfl)
theorem ew_k118 : Cond.code (oe_y 118) (oe_by 118) (oe_ml 118) (oe_ret 118) ∈ lw_tbl := ew_s3 (List.mem_of_getElem? (i := 27) rfl)
theorem ew_k119 : Cond.code (oe_y 119) (oe_by 119) (oe_ml 119) (oe_ret 119) ∈ lw_tbl := ew_s3 (List.mem_of_getElem? (i := 48) rfl)
theorem ew_k120 : Cond.code (oe_y 120) (oe_by 120) (oe_ml 120) (oe_ret 120) ∈ lw_tbl := ew_s3 (List.mem_of_getElem? (i := 31) rfl)
theorem ew_k121 : Cond.code (oe_y 121) (oe_by 121) (oe_ml 121) (oe_ret 121) ∈ lw_tbl := ew_s3 (List.mem_of_getElem? (i := 36) rfl)
theorem ew_k122 : Cond.code (oe_y 122) (oe_by 122) (oe_ml 122) (oe_ret 122) ∈ lw_tbl := ew_s3 (List.mem_of_getElem? (i := 62) rfl)
theorem ew_k123 : Cond.code (oe_y 123) (oe_by 123) (oe_ml 123) (oe_ret 123) ∈ lw_tbl := ew_s3 (List.mem_of_getElem? (i := 52) rfl)
theorem ew_k124 : Cond.code (oe_y 124) (oe_by 124) (oe_ml 124) (oe_ret 124) ∈ lw_tbl := ew_s3 (List.mem_of_getElem? (i := 40) rfl)
theorem ew_k125 : Cond.code (oe_y 125) (oe_by 125) (oe_ml 125) (oe_ret 125) ∈ lw_tbl := ew_s1 (List.mem_of_getElem? (i := 35) rfl)
theorem ew_k126 : Cond.code (oe_y 126) (oe_by 126) (oe_ml 126) (oe_ret 126) ∈ lw_tbl := ew_s3 (List.mem_of_getElem? (i := 71) rfl)
theorem ew_k127 : Cond.code (oe_y 127) (oe_by 127) (oe_ml 127) (oe_ret 127) ∈ lw_tbl := ew_s3 (List.mem_of_getElem? (i := 75) rfl)
theorem ew_k128 : Cond.code (oe_y 128) (oe_by 128) (oe_ml 128) (oe_ret 128) ∈ lw_tbl := ew_s2 (List.mem_of_getElem? (i := 191) rfl)
theorem ew_k129 : Cond.code (oe_y 129) (oe_by 129) (oe_ml 129) (oe_ret 129) ∈ lw_tbl := ew_s2 (List.mem_of_getElem? (i := 142) rfl)
theorem ew_k900 : Cond.code (oe_y 900) (oe_by 900) (oe_ml 900) (oe_ret 900) ∈ lw_tbl := ew_s2 (List.mem_of_getElem? (i := 6) rfl)
theorem ew_k901 : Cond.code (oe_y 901) (oe_by 901) (oe_ml 901) (oe_ret 901) ∈ lw_tbl := ew_s3 (List.mem_of_getElem? (i := 96) rfl)
theorem ew_ko : Cond.code objectInit ⟨#[0xb1]⟩ 1 none ∈ lw_tbl := ew_s1 (List.mem_of_getElem? (i := 30) rfl)
def ew_T : List Nat := [2, 3, 4, 6, 7, 11, 12, 13, 14, 15, 16, 17, 18, 19, 20, 21, 22, 23, 24, 25, 26, 27, 28, 29, 30, 31, 32, 33, 34, 35, 36, 37, 38, 39, 40, 41, 42, 43, 44, 45, 46, 47, 48, 49, 50, 51, 52, 53, 54, 55, 56, 57, 58, 59, 60, 61, 62, 63, 64, 65, 66, 67, 68, 69, 70, 71, 72, 73, 74, 75, 76, 77, 78, 79, 80, 81, 82, 83, 84, 85, 86, 87, 88, 89, 90, 91, 92, 93, 94, 95, 96, 97, 98, 99, 100, 101, 102, 103, 104, 105, 106, 107, 108, 109, 110, 111, 112, 113, 114, 115, 116, 117, 118, 119, 120, 121, 122, 123, 124, 125, 126, 127, 128, 129, 900, 901]
theorem ew_kT : ∀ t ∈ ew_T, Cond.code (oe_y t) (oe_by t) (oe_ml t) (oe_ret t) ∈ lw_tbl := List.forall_mem_cons.mpr ⟨ew_k2, List.forall_mem_cons.mpr ⟨ew_k3, List.forall_mem_cons.mpr ⟨ew_k4, List.forall_mem_cons.mpr ⟨ew_k6, List.forall_mem_cons.mpr ⟨ew_k7, List.forall_mem_cons.mpr ⟨ew_k11, List.forall_mem_cons.mpr ⟨ew_k12, List.forall_mem_cons.mpr ⟨ew_k13, List.forall_mem_cons.mpr ⟨ew_k14, List.forall_mem_cons.mpr ⟨ew_k15, List.forall_mem_cons.mpr ⟨ew_k16, List.forall_mem_cons.mpr ⟨ew_k17, List.forall_mem_cons.mpr ⟨ew_k18, List.forall_mem_cons.mpr ⟨ew_k19, List.forall_mem_cons.mpr ⟨ew_k20, List.forall_mem_cons.mpr ⟨ew_k21, List.forall_mem_cons.mpr ⟨ew_k22, List.forall_mem_cons.mpr ⟨ew_k23, List.forall_mem_cons.mpr ⟨ew_k24, List.forall_mem_cons.mpr ⟨ew_k25, List.forall_mem_cons.mpr ⟨ew_k26, List.forall_mem_cons.mpr ⟨ew_k27, List.forall_mem_cons.mpr ⟨ew_k28, List.forall_mem_cons.mpr ⟨ew_k29, List.forall_mem_cons.mpr ⟨ew_k30, List.forall_mem_cons.mpr ⟨ew_k31, List.forall_mem_cons.mpr ⟨ew_k32, List.forall_mem_cons.mpr ⟨ew_k33, List.forall_mem_cons.mpr ⟨ew_k34, List.forall_mem_cons.mpr ⟨ew_k35, List.forall_mem_cons.mpr ⟨ew_k36, List.forall_mem_cons.mpr ⟨ew_k37, List.forall_mem_cons.mpr ⟨ew_k38, List.forall_mem_cons.mpr ⟨ew_k39, List.forall_mem_cons.mpr ⟨ew_k40, List.forall_mem_cons.mpr ⟨ew_k41, List.forall_mem_cons.mpr ⟨ew_k42, List.forall_mem_cons.mpr ⟨ew_k43, List.forall_mem_cons.mpr ⟨ew_k44, List.forall_mem_cons.mpr ⟨ew_k45, List.forall_mem_cons.mpr ⟨ew_k46, List.forall_mem_cons.mpr ⟨ew_k47, List.forall_mem_cons.mpr ⟨ew_k48, List.forall_mem_cons.mpr ⟨ew_k49, List.forall_mem_cons.mpr ⟨ew_k50, List.forall_mem_cons.mpr ⟨ew_k51, List.forall_mem_cons.mpr ⟨ew_k52, List.forall_mem_cons.mpr ⟨ew_k53, List.forall_mem_cons.mpr ⟨ew_k54, List.forall_mem_cons.mpr ⟨ew_k55, List.forall_mem_cons.mpr ⟨ew_k56, List.forall_mem_cons.mpr ⟨ew_k57, List.forall_mem_cons.mpr ⟨ew_k58, List.forall_mem_cons.mpr ⟨ew_k59, List.forall_mem_cons.mpr ⟨ew_k60, List.forall_mem_cons.mpr ⟨ew_k61, List.forall_mem_cons.mpr ⟨ew_k62, List.forall_mem_cons.mpr ⟨ew_k63, List.forall_mem_cons.mpr ⟨ew_k64, List.forall_mem_cons.mpr ⟨ew_k65, List.forall_mem_cons.mpr ⟨ew_k66, List.forall_mem_cons.mpr ⟨ew_k67, List.forall_mem_cons.mpr ⟨ew_k68, List.forall_mem_cons.mpr ⟨ew_k69, List.forall_mem_cons.mpr ⟨ew_k70, List.forall_mem_cons.mpr ⟨ew_k71, List.forall_mem_cons.mpr ⟨ew_k72, List.forall_mem_cons.mpr ⟨ew_k73, List.forall_mem_cons.mpr ⟨ew_k74, List.forall_mem_cons.mpr ⟨ew_k75, List.forall_mem_cons.mpr ⟨ew_k76, List.forall_mem_cons.mpr ⟨ew_k77, List.forall_mem_cons.mpr ⟨ew_k78, List.forall_mem_cons.mpr ⟨ew_k79, List.forall_mem_cons.mpr ⟨ew_k80, List.forall_mem_cons.mpr ⟨ew_k81, List.forall_mem_cons.mpr ⟨ew_k82, List.forall_mem_cons.mpr ⟨ew_k83, List.forall_mem_cons.mpr ⟨ew_k84, List.forall_mem_cons.mpr ⟨ew_k85, List.forall_mem_cons.mpr ⟨ew_k86, List.forall_mem_cons.mpr ⟨ew_k87, List.forall_mem_cons.mpr ⟨ew_k88, List.forall_mem_cons.mpr ⟨ew_k89, List.forall_mem_cons.mpr ⟨ew_k90, List.forall_mem_cons.mpr ⟨ew_k91, List.forall_mem_cons.mpr ⟨ew_k92, List.forall_mem_cons.mpr ⟨ew_k93, List.forall_mem_cons.mpr ⟨ew_k94, List.forall_mem_cons.mpr ⟨ew_k95, List.forall_mem_cons.mpr ⟨ew_k96, List.forall_mem_cons.mpr ⟨ew_k97, List.forall_mem_cons.mpr ⟨ew_k98, List.forall_mem_cons.mpr ⟨ew_k99, List.forall_mem_cons.mpr ⟨ew_k100, List.forall_mem_cons.mpr ⟨ew_k101, List.forall_mem_cons.mpr ⟨ew_k102, List.forall_mem_cons.mpr ⟨ew_k103, List.forall_mem_cons.mpr ⟨ew_k104, List.forall_mem_cons.mpr ⟨ew_k105, List.forall_mem_cons.mpr ⟨ew_k106, List.forall_mem_cons.mpr ⟨ew_k107, List.forall_mem_cons.mpr ⟨ew_k108, List.forall_mem_cons.mpr ⟨ew_k109, List.forall_mem_cons.mpr ⟨ew_k110, List.forall_mem_cons.mpr ⟨ew_k111, List.forall_mem_cons.mpr ⟨ew_k112, List.forall_mem_cons.mpr ⟨ew_k113, List.forall_mem_cons.mpr ⟨ew_k114, List.forall_mem_cons.mpr ⟨ew_k115, List.forall_mem_cons.mpr ⟨ew_k116, List.forall_mem_cons.mpr ⟨ew_k117, List.forall_mem_cons.mpr ⟨ew_k118, List.forall_mem_cons.mpr ⟨ew_k119, List.forall_mem_cons.mpr ⟨ew_k120, List.forall_mem_cons.mpr ⟨ew_k121, List.forall_mem_cons.mpr ⟨ew_k122, List.forall_mem_cons.mpr ⟨ew_k123, List.forall_mem_cons.mpr ⟨ew_k124, List.forall_mem_cons.mpr ⟨ew_k125, List.forall_mem_cons.mpr ⟨ew_k126, List.forall_mem_cons.mpr ⟨ew_k127, List.forall_mem_cons.mpr ⟨ew_k128, List.forall_mem_cons.mpr ⟨ew_k129, List.forall_mem_cons.mpr ⟨ew_k900, List.forall_mem_cons.mpr ⟨ew_k901, fun _ h => absurd h List.not_mem_nil⟩⟩⟩⟩⟩⟩⟩⟩⟩⟩⟩⟩⟩⟩⟩⟩⟩⟩⟩⟩⟩⟩⟩⟩⟩⟩⟩⟩⟩⟩⟩⟩⟩⟩⟩⟩⟩⟩⟩⟩⟩⟩⟩⟩⟩⟩⟩⟩⟩⟩⟩⟩⟩⟩⟩⟩⟩⟩⟩⟩⟩⟩⟩⟩⟩⟩⟩⟩⟩⟩⟩⟩⟩⟩⟩⟩⟩⟩⟩⟩⟩⟩⟩⟩⟩⟩⟩⟩⟩⟩⟩⟩⟩⟩⟩⟩⟩⟩⟩⟩⟩⟩⟩⟩⟩⟩⟩⟩⟩⟩⟩⟩⟩⟩⟩⟩⟩⟩⟩⟩⟩⟩⟩⟩⟩⟩
def ew_i (i : Jvm.ClassFile.Instr) : Bool := match i with
  | .invokestatic r => decide (r / 1000 = 1) || decide (r / 1000 ∈ ew_T)
  | .invokespecial r => decide (r / 1000 = 0) || decide (r / 1000 ∈ ew_T)
  | .invokevirtual r => decide (r / 1000 ∈ ew_T)
  | _ => true
theorem ew_it : (List.range 131).all (fun j => (oe_code j).all (fun q => ew_i q.2.1)) = true := by decide +kernel
theorem ew_code {j pc : Nat} {i : Jvm.ClassFile.Instr} (hi : ew_i i = true) : ∀ w ∈ oe_lw j pc i, ew_c w = true → w ∈ lw_tbl := by
  intro w hw hc
  have nc : ∀ {l : List Cond}, w ∈ l → l.all (fun v => !ew_c v) = true → w ∈ lw_tbl := by
    intro l h1 h2
    have := List.all_eq_true.mp h2 w h1
    rw [hc] at this
    cases this
  unfold oe_lw at hw
  split at hw
  · split at hw
    · exact nc hw rfl
    · cases hw
  · split at hw
    · exact nc hw rfl
    · cases hw
  · split at hw
    · exact nc hw rfl
    · cases hw
  · exact nc hw rfl
  · exact nc hw rfl
  · exact nc hw rfl
  · rename_i r
    unfold ew_i at hi
    rw [Bool.or_eq_true, decide_eq_true_eq, decide_eq_true_eq] at hi
    split at hw
    · exact nc hw rfl
    · rename_i hr
      have ht := ew_kT _ (hi.resolve_left hr)
      unfold oe_lws at hw
      rcases List.mem_cons.mp hw with q | hw
      · rw [q]; exact ht
      rcases List.mem_cons.mp hw with q | hw
      · rw [q] at hc; cases hc
      rcases List.mem_cons.mp hw with q | hw
      · rw [q] at hc; cases hc
      split at hw
      · exact nc hw rfl
      · cases hw
  · rename_i r
    unfold ew_i at hi
    rw [Bool.or_eq_true, decide_eq_true_eq, decide_eq_true_eq] at hi
    split at hw
    · rcases List.mem_cons.mp hw with q | hw
      · rw [q] at hc; cases hc
      rcases List.mem_cons.mp hw with q | hw
      · rw [q] at hc; cases hc
      rw [List.mem_singleton.mp hw]
      exact ew_ko
    · rename_i hr
      have ht := ew_kT _ (hi.resolve_left hr)
      unfold oe_lwi at hw
      rcases List.mem_cons.mp hw with q | hw
      · rw [q]; exact ht
      rcases List.mem_cons.mp hw with q | hw
      · rw [q] at hc; cases hc
      rcases List.mem_cons.mp hw with q | hw
      · rw [q] at hc; cases hc
      split at hw
      · exact nc hw rfl
      · cases hw
  · rename_i r
    unfold ew_i at hi
    rw [decide_eq_true_eq] at hi
    have ht := ew_kT _ hi
    unfold oe_lwv at hw
    rcases List.mem_cons.mp hw with q | hw
    · rw [q]; exact ht
    exact nc hw rfl
  · cases hw
def ew_x0 : List (List Nat) := [[], [], [86, 87, 129, 239, 240, 129, 241, 242, 89, 90, 60, 60, 92, 91, 243, 155, 156, 63, 63, 158, 157, 244, 184, 185, 64, 64, 187, 245, 246, 237, 97, 61, 61, 99, 238, 247, 248, 237, 97, 61, 61, 99, 238, 249, 237, 97, 61, 61, 99, 238, 250, 237, 97, 61, 61, 99, 238, 251, 130, 252], [240, 239, 240, 240, 240], [240, 240]]
theorem ew_t0 : (List.range 5).all (fun i => ew_ok (((oe_code (0 + i)).flatMap (fun q => oe_lw (0 + i) q.1 q.2.1)).filter (fun w => !ew_c w)) (ew_x0.getD i [])) = true := by decide +kernel
def ew_x1 : List (List Nat) := [[243, 60, 607, 608, 606, 59, 296, 0, 294, 249, 61, 491, 492, 495, 249, 252, 61, 501, 502, 500, 243, 249, 60, 611, 612, 610, 243, 149], [59, 296, 0, 294, 249, 135, 121, 249, 140, 121, 247, 249, 135, 249, 140, 61, 408, 409, 407, 248, 247, 59, 420, 1, 418, 59, 470, 5, 468], [59, 484, 6, 482], [59, 484, 6, 482, 59, 484, 6, 482], [244, 168, 243, 149, 246]]
theorem ew_t1 : (List.range 5).all (fun i => ew_ok (((oe_code (5 + i)).flatMap (fun q => oe_lw (5 + i) q.1 q.2.1)).filter (fun w => !ew_c w)) (ew_x1.getD i [])) = true := by decide +kernel
def ew_x2 : List (List Nat) := [[59, 784, 19, 782, 242, 135, 59, 630, 17, 628, 241, 242, 242, 242, 140, 59, 630, 17, 628, 242], [59, 296, 0, 294, 249, 61, 473, 474, 472, 249, 135, 249, 140, 62, 453, 249, 140, 249, 135, 62, 453], [59, 296, 0, 294, 245, 226, 65, 543, 544, 624, 249, 135, 65, 548, 549, 625, 249, 140, 65, 548, 549, 625, 65, 558, 559, 626, 249, 135, 65, 588, 589, 627, 242, 249, 135, 59, 630, 17, 628, 242], [59, 296, 0, 294, 249, 135, 121, 244, 249, 135, 63, 423, 424, 422, 242, 249, 135, 59, 630, 17, 628], [242]]
theorem ew_t2 : (List.range 5).all (fun i => ew_ok (((oe_code (10 + i)).flatMap (fun q => oe_lw (10 + i) q.1 q.2.1)).filter (fun w => !ew_c w)) (ew_x2.getD i [])) = true := by decide +kernel
def ew_x3 : List (List Nat) := [[242, 241], [], [], [240, 240, 249, 135, 62, 299, 300, 298, 249, 140, 62, 299, 300, 298, 239, 239, 59, 303, 302, 59, 394, 393, 249, 140, 249, 135, 62, 397, 398, 396, 59, 401, 400, 249, 135, 62, 404, 405, 403, 249, 140, 62, 404, 405, 403], [121, 242, 241, 241, 242, 112, 59, 633, 632, 242, 242]]
theorem ew_t3 : (List.range 5).all (fun i => ew_ok (((oe_code (15 + i)).flatMap (fun q => oe_lw (15 + i) q.1 q.2.1)).filter (fun w => !ew_c w)) (ew_x3.getD i [])) = true := by decide +kernel
def ew_x4 : List (List Nat) := [[248, 247, 244, 168, 243, 149, 244, 166, 243, 147], [248, 247, 61, 473, 474, 472], [244, 135, 63, 423, 424, 422, 244, 140, 63, 423, 424, 422], [59, 470, 5, 468, 243, 149, 243, 250, 60, 487, 488, 486, 250, 59, 420, 1, 418, 250, 61, 473, 474, 472, 250, 61, 491, 492, 495, 250, 59, 498, 7, 496, 244, 166, 244, 168, 250, 59, 511, 8, 509, 244, 63, 518, 519, 517, 244, 250, 63, 522, 523, 521, 244, 168, 59, 533, 9, 531, 248, 247, 59, 420, 1, 418, 59, 470, 5, 468], [252, 61, 501, 502, 500, 251, 140, 135, 61, 408, 409, 407, 251, 252, 61, 501, 502, 500]]
theorem ew_t4 : (List.range 5).all (fun i => ew_ok (((oe_code (20 + i)).flatMap (fun q => oe_lw (20 + i) q.1 q.2.1)).filter (fun w => !ew_c w)) (ew_x4.getD i [])) = true := by decide +kernel
def ew_x5 : List (List Nat) := [[61, 514, 515, 513, 251, 61, 514, 515, 513], [244, 166, 61, 431, 432, 535, 121, 245, 244, 166, 64, 537, 538, 536, 59, 604, 16, 602], [246, 246, 245, 228, 244, 135, 63, 423, 424, 422, 244, 140, 63, 423, 424, 422, 61, 473, 474, 472, 59, 498, 7, 496, 61, 491, 492, 495, 246, 246, 244, 166, 244, 168, 59, 511, 8, 509, 243, 147, 243, 149, 59, 511, 8, 509, 243, 60, 607, 608, 606, 246, 246, 243, 60, 611, 612, 610], [807, 87, 130, 810, 130, 812, 130, 813, 130, 817, 130, 818, 130, 819, 130, 821, 130, 822, 130, 823, 130, 826, 130, 827, 130, 828, 130, 829, 130, 831, 130, 833, 130, 834, 183, 835, 130, 836, 130, 838, 130, 839, 130, 840, 130, 842, 130, 843, 130, 845, 130, 846, 130, 847, 130, 849, 130, 850, 130, 851, 130, 852], [808]]
theorem ew_t5 : (List.range 5).all (fun i => ew_ok (((oe_code (25 + i)).flatMap (fun q => oe_lw (25 + i) q.1 q.2.1)).filter (fun w => !ew_c w)) (ew_x5.getD i [])) = true := by decide +kernel
def ew_x6 : List (List Nat) := [[808, 809, 810, 809, 809, 809], [808, 809, 809], [], [], []]
theorem ew_t6 : (List.range 5).all (fun i => ew_ok (((oe_code (30 + i)).flatMap (fun q => oe_lw (30 + i) q.1 q.2.1)).filter (fun w => !ew_c w)) (ew_x6.getD i [])) = true := by decide +kernel
def ew_x7 : List (List Nat) := [[], [809, 809, 814, 815, 810, 66, 965, 964, 66, 968, 967, 66, 971, 970, 813, 815, 815, 815, 810, 815, 814], [833, 834, 833, 829, 831], [829, 66, 971, 970, 835, 66, 1043, 37, 1041, 833], [831, 66, 971, 970, 835, 834]]
theorem ew_t7 : (List.range 5).all (fun i => ew_ok (((oe_code (35 + i)).flatMap (fun q => oe_lw (35 + i) q.1 q.2.1)).filter (fun w => !ew_c w)) (ew_x7.getD i [])) = true := by decide +kernel
def ew_x8 : List (List Nat) := [[829, 66, 971, 970, 66, 1043, 37, 1041, 835, 833, 834], [829, 831, 66, 968, 967, 833, 829, 66, 968, 967, 66, 1039, 36, 1037, 66, 1047, 38, 1045, 66, 1051, 39, 1049], [830, 829, 66, 971, 970, 833, 833, 832, 831, 66, 971, 970, 834, 834, 830, 832, 835, 66, 1035, 35, 1033, 835], [836, 66, 971, 970], [838, 821, 837, 66, 968, 967, 836, 66, 1011, 29, 1009, 838, 838, 839, 66, 1019, 31, 1017, 838, 839]]
theorem ew_t8 : (List.range 5).all (fun i => ew_ok (((oe_code (40 + i)).flatMap (fun q => oe_lw (40 + i) q.1 q.2.1)).filter (fun w => !ew_c w)) (ew_x8.getD i [])) = true := by decide +kernel
def ew_x9 : List (List Nat) := [[836, 836], [841, 821, 66, 968, 967, 838, 66, 968, 967, 839, 841, 840, 841, 66, 968, 967, 836, 838, 841, 841], [830, 829, 836, 841, 832, 841, 831, 840, 66, 1031, 34, 1029], [837, 841, 837, 836, 836, 837, 836, 836, 841, 836, 840, 841, 837], [837, 66, 1011, 29, 1009, 820, 822, 823, 66, 1015, 30, 1013, 837, 66, 1023, 32, 1021, 66, 1027, 33, 1025, 66, 1055, 40, 1053]]
theorem ew_t9 : (List.range 5).all (fun i => ew_ok (((oe_code (45 + i)).flatMap (fun q => oe_lw (45 + i) q.1 q.2.1)).filter (fun w => !ew_c w)) (ew_x9.getD i [])) = true := by decide +kernel
def ew_x10 : List (List Nat) := [[66, 1007, 28, 1005], [827, 837, 837, 836, 826, 66, 1003, 27, 1001, 827, 837, 837, 826, 836], [827, 827, 827, 826, 826], [828, 827, 827, 827, 826, 66, 968, 967, 828, 828, 828, 826], [66, 983, 23, 981, 826, 826, 826, 826]]
theorem ew_t10 : (List.range 5).all (fun i => ew_ok (((oe_code (50 + i)).flatMap (fun q => oe_lw (50 + i) q.1 q.2.1)).filter (fun w => !ew_c w)) (ew_x10.getD i [])) = true := by decide +kernel
def ew_x11 : List (List Nat) := [[827, 827, 827, 826, 826], [66, 983, 23, 981, 820, 821, 822, 823, 66, 1083, 46, 1081, 821, 822, 823, 66, 1083, 46, 1081, 816, 817, 818, 819, 66, 1083, 46, 1081, 817, 818, 819, 66, 1083, 46, 1081], [818, 816, 827, 819, 816, 827, 827, 819, 816, 817, 816, 827, 826, 826, 827, 816, 816], [842, 66, 968, 967, 843, 842, 843, 842], [842, 66, 971, 970]]
theorem ew_t11 : (List.range 5).all (fun i => ew_ok (((oe_code (55 + i)).flatMap (fun q => oe_lw (55 + i) q.1 q.2.1)).filter (fun w => !ew_c w)) (ew_x11.getD i [])) = true := by decide +kernel
def ew_x12 : List (List Nat) := [[849, 850, 849, 850, 849, 849, 842, 66, 968, 967, 843, 842, 849, 843, 842, 850, 843, 842, 66, 1107, 52, 1105, 848, 847, 848, 842, 848, 848], [848, 66, 1107, 52, 1105, 66, 1111, 53, 1109, 848, 847, 843], [843, 845, 846, 844, 845, 66, 1099, 50, 1097, 846, 66, 1099, 50, 1097, 844, 844, 844, 842, 66, 968, 967, 842, 842, 842, 66, 1103, 51, 1101, 842, 66, 968, 967, 842, 66, 1103, 51, 1101, 842, 842, 842, 66, 971, 970, 845, 66, 1107, 52, 1105, 846, 66, 1107, 52, 1105, 845, 846], [848, 66, 1111, 53, 1109, 848, 851, 847, 852, 848], [852, 830, 852, 832, 830, 832, 830, 829, 851, 832, 831, 851, 829, 831, 66, 1031, 34, 1029]]
theorem ew_t12 : (List.range 5).all (fun i => ew_ok (((oe_code (60 + i)).flatMap (fun q => oe_lw (60 + i) q.1 q.2.1)).filter (fun w => !ew_c w)) (ew_x12.getD i [])) = true := by decide +kernel
def ew_x13 : List (List Nat) := [[823, 842, 821, 823, 821, 842, 66, 968, 967, 822, 822, 822, 822, 822, 822, 823, 822, 823, 822, 66, 1095, 49, 1093, 66, 1115, 54, 1113, 66, 1115, 54, 1113, 66, 1115, 54, 1113, 66, 1115, 54, 1113, 824, 824, 66, 1119, 55, 1117, 66, 1119, 55, 1117, 848, 66, 1111, 53, 1109, 66, 1111, 53, 1109, 66, 1107, 52, 1105, 66, 1111, 53, 1109, 824, 824, 827, 848, 848, 826, 847, 827, 852, 827, 826, 851, 66, 1123, 56, 1121], [66, 999, 26, 997, 66, 999, 26, 997, 66, 1063, 42, 1061, 827, 827, 66, 979, 22, 977, 824, 824, 66, 1079, 45, 1077, 816, 824, 824, 66, 987, 24, 985], [822, 822, 823, 821, 66, 968, 967, 66, 1091, 48, 1089], [825, 66, 1063, 42, 1061], [825, 66, 999, 26, 997, 66, 999, 26, 997]]
theorem ew_t13 : (List.range 5).all (fun i => ew_ok (((oe_code (65 + i)).flatMap (fun q => oe_lw (65 + i) q.1 q.2.1)).filter (fun w => !ew_c w)) (ew_x13.getD i [])) = true := by decide +kernel
def ew_x14 : List (List Nat) := [[816, 819, 819, 827, 818, 827, 819, 818, 819, 818, 826, 817, 826, 818, 817, 816, 818, 818, 819, 819, 817, 817, 816, 816], [66, 1059, 41, 1057, 816, 66, 1075, 44, 1073, 66, 999, 26, 997, 66, 999, 26, 997, 66, 1063, 42, 1061, 827, 827, 66, 979, 22, 977, 66, 1079, 45, 1077, 820, 822, 820, 827, 823, 820, 827, 827, 823, 820, 821, 820, 827, 826, 826, 827, 820, 820, 820, 820, 66, 1087, 47, 1085, 820, 820, 66, 1087, 47, 1085, 66, 995, 25, 993, 66, 1059, 41, 1057], [827, 814, 827, 815, 814, 815, 814, 826, 813, 826, 814, 813], [816, 808, 808, 66, 962, 20, 960, 815, 66, 975, 21, 973, 66, 979, 22, 977, 66, 987, 24, 985, 816], [808, 66, 962, 20, 960, 814, 815, 814, 66, 975, 21, 973, 825, 66, 995, 25, 993, 66, 1059, 41, 1057]]
theorem ew_t14 : (List.range 5).all (fun i => ew_ok (((oe_code (70 + i)).flatMap (fun q => oe_lw (70 + i) q.1 q.2.1)).filter (fun w => !ew_c w)) (ew_x14.getD i [])) = true := by decide +kernel
def ew_x15 : List (List Nat) := [[808, 66, 1071, 43, 1069], [808, 808, 66, 1071, 43, 1069], [808, 808, 820, 816, 824], [812, 811, 811, 811], [820, 816, 825, 808, 808, 811, 822, 818, 827, 823, 819, 827, 827, 66, 1139, 57, 1137, 821, 817, 826, 826, 66, 1142, 1141, 66, 1139, 57, 1137, 811]]
theorem ew_t15 : (List.range 5).all (fun i => ew_ok (((oe_code (75 + i)).flatMap (fun q => oe_lw (75 + i) q.1 q.2.1)).filter (fun w => !ew_c w)) (ew_x15.getD i [])) = true := by decide +kernel
def ew_x16 : List (List Nat) := [[808, 66, 962, 20, 960, 814, 815, 814, 813, 813, 830, 832, 830, 829, 813, 832, 831, 813, 66, 1031, 34, 1029], [808, 66, 962, 20, 960, 815, 842, 813, 814, 66, 1095, 49, 1093, 848, 814, 66, 1111, 53, 1109, 811, 848, 847, 66, 1142, 1141, 66, 1139, 57, 1137, 811], [808, 66, 962, 20, 960, 815, 815, 837, 815, 836, 813, 66, 1003, 27, 1001, 811, 837, 836, 66, 1142, 1141, 66, 1139, 57, 1137], [808, 811], [808, 811, 812]]
theorem ew_t16 : (List.range 5).all (fun i => ew_ok (((oe_code (80 + i)).flatMap (fun q => oe_lw (80 + i) q.1 q.2.1)).filter (fun w => !ew_c w)) (ew_x16.getD i [])) = true := by decide +kernel
def ew_x17 : List (List Nat) := [[160, 87, 161, 165, 167, 183, 169, 130, 170, 162, 103, 62, 62, 105, 163, 171, 165, 165, 161, 97, 61, 61, 99, 164], [167, 165], [63, 518, 519, 525, 165, 167, 134, 139, 61, 408, 409, 526, 169, 167, 134, 139, 62, 528, 529, 527, 169, 167, 139, 134, 62, 528, 529, 527, 167, 167], [120, 63, 428, 2, 426], [120, 114, 167, 165, 169, 61, 431, 432, 430, 63, 436, 3, 434, 61, 431, 432, 430, 63, 447, 4, 445, 171, 62, 453, 171, 62, 464, 465, 463]]
theorem ew_t17 : (List.range 5).all (fun i => ew_ok (((oe_code (85 + i)).flatMap (fun q => oe_lw (85 + i) q.1 q.2.1)).filter (fun w => !ew_c w)) (ew_x17.getD i [])) = true := by decide +kernel
def ew_x18 : List (List Nat) := [[170, 77, 439, 438, 120, 111, 120, 59, 394, 111, 170, 170, 170, 62, 443, 442, 114], [171, 62, 299, 300, 449, 120, 111, 59, 394, 170, 114, 171, 120, 171, 111, 62, 397, 398, 450, 171, 62, 404, 405, 451], [101, 87, 102, 103, 62, 62, 105, 104, 131, 102, 103, 62, 62, 105, 104, 136], [131, 136], [131, 118, 136, 118]]
theorem ew_t18 : (List.range 5).all (fun i => ew_ok (((oe_code (90 + i)).flatMap (fun q => oe_lw (90 + i) q.1 q.2.1)).filter (fun w => !ew_c w)) (ew_x18.getD i [])) = true := by decide +kernel
def ew_x19 : List (List Nat) := [[131, 62, 412, 413, 411, 136, 62, 412, 413, 411], [131, 136, 62, 443, 476], [131, 131, 62, 443, 476, 136, 136, 62, 443, 476], [77, 439, 504, 136, 131, 62, 506, 507, 505, 62, 506, 507, 505], [107, 87, 116, 130, 108, 130, 113]]
theorem ew_t19 : (List.range 5).all (fun i => ew_ok (((oe_code (95 + i)).flatMap (fun q => oe_lw (95 + i) q.1 q.2.1)).filter (fun w => !ew_c w)) (ew_x19.getD i [])) = true := by decide +kernel
def ew_x20 : List (List Nat) := [[116], [116, 108, 108, 116, 116, 116], [116, 108, 59, 394, 62, 397, 398, 555], [116, 108, 116, 113, 108, 116, 113, 113], [116, 108, 108, 108, 116, 415, 417, 416, 78, 113, 113, 116, 415, 417, 416, 78, 116, 116]]
theorem ew_t20 : (List.range 5).all (fun i => ew_ok (((oe_code (100 + i)).flatMap (fun q => oe_lw (100 + i) q.1 q.2.1)).filter (fun w => !ew_c w)) (ew_x20.getD i [])) = true := by decide +kernel
def ew_x21 : List (List Nat) := [[113, 116, 116, 108, 108, 108, 116, 116, 415, 417, 416, 78, 108, 108, 116, 415, 417, 416, 78, 116, 62, 404, 405, 467], [108], [116, 108, 59, 394, 108, 116, 62, 457, 458, 456], [116, 108, 59, 394, 108], [113, 113, 108, 108]]
theorem ew_t21 : (List.range 5).all (fun i => ew_ok (((oe_code (105 + i)).flatMap (fun q => oe_lw (105 + i) q.1 q.2.1)).filter (fun w => !ew_c w)) (ew_x21.getD i [])) = true := by decide +kernel
def ew_x22 : List (List Nat) := [[108, 108, 59, 394, 113, 62, 457, 458, 456, 59, 394, 59, 401, 62, 443, 461, 113, 113, 59, 401, 62, 453, 462, 113, 113, 59, 401, 62, 453, 462, 113, 59, 401, 62, 443, 461, 62, 453, 462, 113], [189, 87, 190, 191, 65, 65, 193, 225, 223, 97, 61, 61, 99, 224, 227, 223, 97, 61, 61, 99, 224, 229], [61, 431, 432, 540, 109, 59, 394, 225, 65, 543, 544, 542, 225, 61, 431, 432, 540, 65, 548, 549, 547, 225, 61, 431, 432, 540, 65, 548, 549, 547, 225, 61, 431, 432, 540, 65, 548, 549, 547, 225, 61, 431, 432, 540, 65, 548, 549, 547, 225, 65, 558, 559, 557, 225, 229, 132, 65, 588, 589, 587, 225, 229, 137, 65, 588, 589, 587, 225, 227, 132, 65, 588, 589, 587, 225, 227, 137, 65, 588, 589, 587, 229, 64, 593, 15, 591, 227, 64, 593, 15, 591, 227, 132, 117, 229, 132, 117, 229, 137, 117, 227, 132, 225, 65, 598, 599, 597, 229, 137, 62, 464, 465, 601], [61, 473, 474, 595, 137, 132, 62, 453], [195, 87, 196, 103, 62, 62, 105, 197, 198, 130, 199, 130, 200, 130, 201, 202, 196, 103, 62, 62, 105, 197, 203, 130, 204, 130, 205]]
theorem ew_t22 : (List.range 5).all (fun i => ew_ok (((oe_code (110 + i)).flatMap (fun q => oe_lw (110 + i) q.1 q.2.1)).filter (fun w => !ew_c w)) (ew_x22.getD i [])) = true := by decide +kernel
def ew_x23 : List (List Nat) := [[198, 62, 299, 300, 546], [198, 119, 198, 62, 552, 553, 551, 198, 62, 404, 405, 556], [199, 77, 439, 561, 202, 65, 564, 10, 562, 202, 202, 202, 200, 202, 65, 568, 11, 566, 201, 202, 65, 568, 11, 566, 198, 110, 198, 110, 59, 394, 65, 573, 12, 571, 59, 394, 65, 573, 12, 571, 59, 401, 65, 585, 14, 583, 202], [202, 200, 200, 202, 201, 202, 202, 202], [198, 115, 198, 115, 65, 564, 10, 562, 65, 564, 10, 562]]
theorem ew_t23 : (List.range 5).all (fun i => ew_ok (((oe_code (115 + i)).flatMap (fun q => oe_lw (115 + i) q.1 q.2.1)).filter (fun w => !ew_c w)) (ew_x23.getD i [])) = true := by decide +kernel
def ew_x24 : List (List Nat) := [[198, 110, 59, 394, 199, 199], [198, 115, 65, 577, 13, 575, 203, 203, 119, 62, 457, 458, 581, 199], [65, 577, 13, 575, 203, 119], [198, 115, 65, 577, 13, 575, 62, 299, 300, 546, 203, 62, 552, 553, 551, 62, 404, 405, 556], [203, 62, 299, 300, 546, 204, 205, 579, 204, 205, 198, 110, 204, 204, 59, 394, 199, 204, 205, 198, 115, 203, 119, 203, 62, 397, 398, 580]]
theorem ew_t24 : (List.range 5).all (fun i => ew_ok (((oe_code (120 + i)).flatMap (fun q => oe_lw (120 + i) q.1 q.2.1)).filter (fun w => !ew_c w)) (ew_x24.getD i [])) = true := by decide +kernel
def ew_x25 : List (List Nat) := [[94, 87, 95, 146, 148, 146, 146, 95, 97, 61, 61, 99, 98], [148, 146], [60, 607, 608, 614, 146, 148, 133, 138, 61, 408, 409, 494, 148, 148], [148, 148, 146, 61, 491, 492, 490, 146, 61, 491, 492, 490, 146, 133, 138, 61, 408, 409, 494, 148, 148, 148, 146, 146, 146, 148], []]
theorem ew_t25 : (List.range 5).all (fun i => ew_ok (((oe_code (125 + i)).flatMap (fun q => oe_lw (125 + i) q.1 q.2.1)).filter (fun w => !ew_c w)) (ew_x25.getD i [])) = true := by decide +kernel
def ew_x26 : List (List Nat) := [[81, 82, 59, 59, 84, 83, 802, 803, 66, 66, 805, 804, 1164, 59, 283, 284, 282, 66, 949, 950, 948, 59, 287, 288, 286, 66, 953, 954, 952, 66, 957, 958, 956, 66, 945, 946, 944, 59, 291, 292, 290, 66, 990, 991, 989, 59, 479, 480, 478, 66, 1066, 1067, 1065, 66, 1126, 1127, 1125, 66, 945, 946, 944, 66, 1130, 1131, 1129, 66, 945, 946, 944, 66, 1134, 1135, 1133, 66, 945, 946, 944, 59, 616, 617, 615, 66, 1145, 1146, 1144, 59, 621, 622, 620, 66, 1149, 1150, 1148, 59, 656, 657, 655, 66, 1153, 1154, 1152, 59, 660, 661, 659, 66, 1157, 1158, 1156, 59, 664, 665, 663, 66, 1161, 1162, 1160]]
theorem ew_t26 : (List.range 1).all (fun i => ew_ok (((oe_code (130 + i)).flatMap (fun q => oe_lw (130 + i) q.1 q.2.1)).filter (fun w => !ew_c w)) (ew_x26.getD i [])) = true := by decide +kernel
theorem ew_cl : ew_ok (oe_cl.flatMap (fun q => u_ws q.1 q.2.1 q.2.2)) [253, 255, 257, 259, 261, 263, 265, 267, 269, 271, 273, 275, 277, 279, 172, 174, 176, 178, 180, 141, 143, 122, 124, 126, 230, 232, 234, 206, 208, 210, 212, 214, 216, 218, 220, 150, 152, 853, 855, 857, 859, 861, 863, 865, 867, 869, 871, 873, 875, 877, 879, 881, 883, 885, 887, 889, 891, 893, 895, 897, 899, 901, 903, 905, 907, 909, 911, 913, 915, 917, 919, 921, 923, 925, 927, 929, 931, 933, 935, 937, 939, 941] = true := by decide +kernel
theorem ew_W : ∀ w ∈ oe_W, w ∈ lw_tbl := by
  intro w hw
  unfold oe_W at hw
  rcases List.mem_append.mp hw with q | q
  · obtain ⟨j, hj, h⟩ := List.mem_flatMap.mp q
    have hj : j < 131 := List.mem_range.mp hj
    have hcd : ∀ v ∈ ((oe_code j).flatMap (fun q => oe_lw j q.1 q.2.1)).filter ew_c, v ∈ lw_tbl := by
      intro v hv
      obtain ⟨h1, h2⟩ := List.mem_filter.mp hv
      obtain ⟨x, hx1, hx2⟩ := List.mem_flatMap.mp h1
      exact ew_code (List.all_eq_true.mp (List.all_eq_true.mp ew_it j (List.mem_range.mpr hj)) x hx1) v hx2 h2
    by_cases c0 : j < 5
    · have e : j = 0 + (j - 0) := by omega
      have h1 := List.all_eq_true.mp ew_t0 (j - 0) (List.mem_range.mpr (by omega))
      rw [← e] at h1
      exact ew_two h1 hcd w h
    by_cases c1 : j < 10
    · have e : j = 5 + (j - 5) := by omega
      have h1 := List.all_eq_true.mp ew_t1 (j - 5) (List.mem_range.mpr (by omega))
      rw [← e] at h1
      exact ew_two h1 hcd w h
    by_cases c2 : j < 15
    · have e : j = 10 + (j - 10) := by omega
      have h1 := List.all_eq_true.mp ew_t2 (j - 10) (List.mem_range.mpr (by omega))
      rw [← e] at h1
      exact ew_two h1 hcd w h
    by_cases c3 : j < 20
    · have e : j = 15 + (j - 15) := by omega
      have h1 := List.all_eq_true.mp ew_t3 (j - 15) (List.mem_range.mpr (by omega))
      rw [← e] at h1
      exact ew_two h1 hcd w h
    by_cases c4 : j < 25
    · have e : j = 20 + (j - 20) := by omega
      have h1 := List.all_eq_true.mp ew_t4 (j - 20) (List.mem_range.mpr (by omega))
      rw [← e] at h1
      exact ew_two h1 hcd w h
    by_cases c5 : j < 30
    · have e : j = 25 + (j - 25) := by omega
      have h1 := List.all_eq_true.mp ew_t5 (j - 25) (List.mem_range.mpr (by omega))
      rw [← e] at h1
      exact ew_two h1 hcd w h
    by_cases c6 : j < 35
    · have e : j = 30 + (j - 30) := by omega
      have h1 := List.all_eq_true.mp ew_t6 (j - 30) (List.mem_range.mpr (by omega))
      rw [← e] at h1
      exact ew_two h1 hcd w h
    by_cases c7 : j < 40
    · have e : j = 35 + (j - 35) := by omega
      have h1 := List.all_eq_true.mp ew_t7 (j - 35) (List.mem_range.mpr (by omega))
      rw [← e] at h1
      exact ew_two h1 hcd w h
    by_cases c8 : j < 45
    · have e : j = 40 + (j - 40) := by omega
      have h1 := List.all_eq_true.mp ew_t8 (j - 40) (List.mem_range.mpr (by omega))
      rw [← e] at h1
      exact ew_two h1 hcd w h
    by_cases c9 : j < 50
    · have e : j = 45 + (j - 45) := by omega
      have h1 := List.all_eq_true.mp ew_t9 (j - 45) (List.mem_range.mpr (by omega))
      rw [← e] at h1
      exact ew_two h1 hcd w h
    by_cases c10 : j < 55
    · have e : j = 50 + (j - 50) := by omega
      have h1 := List.all_eq_true.mp ew_t10 (j - 50) (List.mem_range.mpr (by omega))
      rw [← e] at h1
      exact ew_two h1 hcd w h
    by_cases c11 : j < 60
    · have e : j = 55 + (j - 55) := by omega
      have h1 := List.all_eq_true.mp ew_t11 (j - 55) (List.mem_range.mpr (by omega))
      rw [← e] at h1
      exact ew_two h1 hcd w h
    by_cases c12 : j < 65
    · have e : j = 60 + (j - 60) := by omega
      have h1 := List.all_eq_true.mp ew_t12 (j - 60) (List.mem_range.mpr (by omega))
      rw [← e] at h1
      exact ew_two h1 hcd w h
    by_cases c13 : j < 70
    · have e : j = 65 + (j - 65) := by omega
      have h1 := List.all_eq_true.mp ew_t13 (j - 65) (List.mem_range.mpr (by omega))
      rw [← e] at h1
      exact ew_two h1 hcd w h
    by_cases c14 : j < 75
    · have e : j = 70 + (j - 70) := by omega
      have h1 := List.all_eq_true.mp ew_t14 (j - 70) (List.mem_range.mpr (by omega))
      rw [← e] at h1
      exact ew_two h1 hcd w h
    by_cases c15 : j < 80
    · have e : j = 75 + (j - 75) := by omega
      have h1 := List.all_eq_true.mp ew_t15 (j - 75) (List.mem_range.mpr (by omega))
      rw [← e] at h1
      exact ew_two h1 hcd w h
    by_cases c16 : j < 85
    · have e : j = 80 + (j - 80) := by omega
      have h1 := List.all_eq_true.mp ew_t16 (j - 80) (List.mem_range.mpr (by omega))
      rw [← e] at h1
      exact ew_two h1 hcd w h
    by_cases c17 : j < 90
    · have e : j = 85 + (j - 85) := by omega
      have h1 := List.all_eq_true.mp ew_t17 (j - 85) (List.mem_range.mpr (by omega))
      rw [← e] at h1
      exact ew_two h1 hcd w h
    by_cases c18 : j < 95
    · have e : j = 90 + (j - 90) := by omega
      have h1 := List.all_eq_true.mp ew_t18 (j - 90) (List.mem_range.mpr (by omega))
      rw [← e] at h1
      exact ew_two h1 hcd w h
    by_cases c19 : j < 100
    · have e : j = 95 + (j - 95) := by omega
      have h1 := List.all_eq_true.mp ew_t19 (j - 95) (List.mem_range.mpr (by omega))
      rw [← e] at h1
      exact ew_two h1 hcd w h
    by_cases c20 : j < 105
    · have e : j = 100 + (j - 100) := by omega
      have h1 := List.all_eq_true.mp ew_t20 (j - 100) (List.mem_range.mpr (by omega))
      rw [← e] at h1
      exact ew_two h1 hcd w h
    by_cases c21 : j < 110
    · have e : j = 105 + (j - 105) := by omega
      have h1 := List.all_eq_true.mp ew_t21 (j - 105) (List.mem_range.mpr (by omega))
      rw [← e] at h1
      exact ew_two h1 hcd w h
    by_cases c22 : j < 115
    · have e : j = 110 + (j - 110) := by omega
      have h1 := List.all_eq_true.mp ew_t22 (j - 110) (List.mem_range.mpr (by omega))
      rw [← e] at h1
      exact ew_two h1 hcd w h
    by_cases c23 : j < 120
    · have e : j = 115 + (j - 115) := by omega
      have h1 := List.all_eq_true.mp ew_t23 (j - 115) (List.mem_range.mpr (by omega))
      rw [← e] at h1
      exact ew_two h1 hcd w h
    by_cases c24 : j < 125
    · have e : j = 120 + (j - 120) := by omega
      have h1 := List.all_eq_true.mp ew_t24 (j - 120) (List.mem_range.mpr (by omega))
      rw [← e] at h1
      exact ew_two h1 hcd w h
    by_cases c25 : j < 130
    · have e : j = 125 + (j - 125) := by omega
      have h1 := List.all_eq_true.mp ew_t25 (j - 125) (List.mem_range.mpr (by omega))
      rw [← e] at h1
      exact ew_two h1 hcd w h
    by_cases c26 : j < 131
    · have e : j = 130 + (j - 130) := by omega
      have h1 := List.all_eq_true.mp ew_t26 (j - 130) (List.mem_range.mpr (by omega))
      rw [← e] at h1
      exact ew_two h1 hcd w h
    omega
  · exact ew_mem _ _ ew_cl w q
theorem ew_sw_n : ew_ok (sw_W.filter (fun w => !ew_c w)) [71, 72, 75, 59, 73, 306, 307, 308, 310, 311, 312, 314, 315, 316, 320, 321, 322, 324, 325, 326, 635, 636, 637, 328, 329, 331, 332, 340, 341, 639, 640, 642, 643, 645, 646, 393, 394, 334, 335, 337, 338, 318, 1166, 1167, 361] = true := by decide +kernel
theorem ew_sw : ∀ w ∈ sw_W, w ∈ lw_tbl := ew_two ew_sw_n (List.forall_mem_cons.mpr ⟨ew_s2 (List.mem_of_getElem? (i := 11) rfl), List.forall_mem_cons.mpr ⟨ew_s2 (List.mem_of_getElem? (i := 15) rfl), List.forall_mem_cons.mpr ⟨ew_s2 (List.mem_of_getElem? (i := 19) rfl), List.forall_mem_cons.mpr ⟨ew_s2 (List.mem_of_getElem? (i := 25) rfl), List.forall_mem_cons.mpr ⟨ew_s2 (List.mem_of_getElem? (i := 29) rfl), List.forall_mem_cons.mpr ⟨ew_s2 (List.mem_of_getElem? (i := 32) rfl), List.forall_mem_cons.mpr ⟨ew_s2 (List.mem_of_getElem? (i := 35) rfl), List.forall_mem_cons.mpr ⟨ew_s2 (List.mem_of_getElem? (i := 44) rfl), List.forall_mem_cons.mpr ⟨ew_s3 (List.mem_of_getElem? (i := 100) rfl), List.forall_mem_cons.mpr ⟨ew_s3 (List.mem_of_getElem? (i := 103) rfl), List.forall_mem_cons.mpr ⟨ew_s3 (List.mem_of_getElem? (i := 106) rfl), List.forall_mem_cons.mpr ⟨ew_s3 (List.mem_of_getElem? (i := 109) rfl), List.forall_mem_cons.mpr ⟨ew_s2 (List.mem_of_getElem? (i := 97) rfl), List.forall_mem_cons.mpr ⟨ew_s2 (List.mem_of_getElem? (i := 38) rfl), List.forall_mem_cons.mpr ⟨ew_s2 (List.mem_of_getElem? (i := 41) rfl), fun _ h => absurd h List.not_mem_nil⟩⟩⟩⟩⟩⟩⟩⟩⟩⟩⟩⟩⟩⟩⟩)
theorem ew_hm_n : ew_ok (hm_W.filter (fun w => !ew_c w)) [59, 672, 673, 671, 747, 748, 746, 770, 771, 769, 779, 780, 778, 670, 745, 777] = true := by decide +kernel
theorem ew_hm : ∀ w ∈ hm_W, w ∈ lw_tbl := ew_two ew_hm_n (List.forall_mem_cons.mpr ⟨ew_s3 (List.mem_of_getElem? (i := 136) rfl), List.forall_mem_cons.mpr ⟨ew_s3 (List.mem_of_getElem? (i := 211) rfl), List.forall_mem_cons.mpr ⟨ew_s3 (List.mem_of_getElem? (i := 234) rfl), List.forall_mem_cons.mpr ⟨ew_s4 (List.mem_of_getElem? (i := 3) rfl), fun _ h => absurd h List.not_mem_nil⟩⟩⟩⟩)
theorem ew_tw_n : ew_ok (tw_W.filter (fun w => !ew_c w)) [67, 697, 706, 713, 715, 698, 87, 700, 705, 711, 731, 687, 732, 689, 733, 691, 701, 703, 693, 727, 730, 693, 718, 720, 721, 679, 721, 723, 724, 681, 724, 726, 727, 683, 717, 676, 677, 684, 685, 686, 688, 690, 692, 696, 695, 694, 67, 697, 706, 713, 715, 698, 87, 700, 705, 711, 731, 687, 732, 689, 733, 691, 701, 703, 693, 727, 730, 693, 761, 763, 721, 679, 721, 723, 724, 681, 724, 726, 727, 683, 760, 751, 752, 753, 708, 754, 755, 756, 757, 696, 695, 758, 67, 697, 706, 713, 715, 698, 87, 700, 705, 711, 731, 687, 732, 689, 733, 691, 701, 703, 693, 727, 730, 693, 797, 799, 721, 679, 721, 723, 724, 681, 724, 726, 727, 683, 796, 787, 788, 789, 709, 790, 791, 792, 793, 696, 695, 794, 675, 750, 786, 70, 79, 80] = true := by decide +kernel
theorem ew_tw : ∀ w ∈ tw_W, w ∈ lw_tbl := ew_two ew_tw_n (List.forall_mem_cons.mpr ⟨ew_s3 (List.mem_of_getElem? (i := 172) rfl), List.forall_mem_cons.mpr ⟨ew_s3 (List.mem_of_getElem? (i := 161) rfl), List.forall_mem_cons.mpr ⟨ew_s1 (List.mem_of_getElem? (i := 30) rfl), List.forall_mem_cons.mpr ⟨ew_s3 (List.mem_of_getElem? (i := 190) rfl), List.forall_mem_cons.mpr ⟨ew_s3 (List.mem_of_getElem? (i := 181) rfl), List.forall_mem_cons.mpr ⟨ew_s3 (List.mem_of_getElem? (i := 184) rfl), List.forall_mem_cons.mpr ⟨ew_s3 (List.mem_of_getElem? (i := 187) rfl), List.forall_mem_cons.mpr ⟨ew_s3 (List.mem_of_getElem? (i := 172) rfl), List.forall_mem_cons.mpr ⟨ew_s3 (List.mem_of_getElem? (i := 161) rfl), List.forall_mem_cons.mpr ⟨ew_s1 (List.mem_of_getElem? (i := 30) rfl), List.forall_mem_cons.mpr ⟨ew_s3 (List.mem_of_getElem? (i := 190) rfl), List.forall_mem_cons.mpr ⟨ew_s3 (List.mem_of_getElem? (i := 224) rfl), List.forall_mem_cons.mpr ⟨ew_s3 (List.mem_of_getElem? (i := 184) rfl), List.forall_mem_cons.mpr ⟨ew_s3 (List.mem_of_getElem? (i := 187) rfl), List.forall_mem_cons.mpr ⟨ew_s3 (List.mem_of_getElem? (i := 172) rfl), List.forall_mem_cons.mpr ⟨ew_s3 (List.mem_of_getElem? (i := 161) rfl), List.forall_mem_cons.mpr ⟨ew_s1 (List.mem_of_getElem? (i := 30) rfl), List.forall_mem_cons.mpr ⟨ew_s3 (List.mem_of_getElem? (i := 190) rfl), List.forall_mem_cons.mpr ⟨ew_s4 (List.mem_of_getElem? (i := 20) rfl), List.forall_mem_cons.mpr ⟨ew_s3 (List.mem_of_getElem? (i := 184) rfl), List.forall_mem_cons.mpr ⟨ew_s3 (List.mem_of_getElem? (i := 187) rfl), fun _ h => absurd h List.not_mem_nil⟩⟩⟩⟩⟩⟩⟩⟩⟩⟩⟩⟩⟩⟩⟩⟩⟩⟩⟩⟩⟩)
theorem ew_ne : ew_ok (oe_nest.map (fun q => Cond.methodLinkNest q.1 q.2.1 q.2.2.1 q.2.2.2)) [186, 619, 619, 452, 441, 441, 455, 455, 455, 455, 455, 460, 460, 460, 460, 192, 541, 596, 570, 570, 582, 570, 570] = true := by decide +kernel
