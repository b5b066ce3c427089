/-! printed by wip/whole/words.py: which words of the tables the code needs, and where they stand -/
def mk_tb : List Cond := lw_tbl.filter goodWord
theorem mk_good : ∀ w ∈ mk_tb, goodWord w = true := fun _ h => (List.mem_filter.mp h).2
theorem mk_sub : ∀ w ∈ mk_tb, w ∈ lw_tbl := fun _ h => (List.mem_filter.mp h).1
theorem mk_tt {w : Cond} (h : w ∈ tables_1) (g : goodWord w = true) : w ∈ mk_tb := List.mem_filter.mpr ⟨List.mem_append_right _ h, g⟩
theorem mk_t1 (i : Nat) {w : Cond} (h : tables_1_1[i]? = some w) (g : goodWord w = true) : w ∈ mk_tb := mk_tt (List.mem_append_left _ (List.mem_of_getElem? h)) g
theorem mk_t2 (i : Nat) {w : Cond} (h : tables_1_2[i]? = some w) (g : goodWord w = true) : w ∈ mk_tb := mk_tt (List.mem_append_right _ (List.mem_append_left _ (List.mem_of_getElem? h))) g
theorem mk_t3 (i : Nat) {w : Cond} (h : tables_1_3[i]? = some w) (g : goodWord w = true) : w ∈ mk_tb := mk_tt (List.mem_append_right _ (List.mem_append_right _ (List.mem_append_left _ (List.mem_of_getElem? h)))) g
theorem mk_t4 (i : Nat) {w : Cond} (h : tables_1_4[i]? = some w) (g : goodWord w = true) : w ∈ mk_tb := mk_tt (List.mem_append_right _ (List.mem_append_right _ (List.mem_append_right _ (List.mem_append_left _ (List.mem_of_getElem? h))))) g
theorem mk_t5 (i : Nat) {w : Cond} (h : tables_1_5[i]? = some w) (g : goodWord w = true) : w ∈ mk_tb := mk_tt (List.mem_append_right _ (List.mem_append_right _ (List.mem_append_right _ (List.mem_append_right _ (List.mem_append_left _ (List.mem_of_getElem? h)))))) g
theorem mk_t6 (i : Nat) {w : Cond} (h : tables_1_6[i]? = some w) (g : goodWord w = true) : w ∈ mk_tb := mk_tt (List.mem_append_right _ (List.mem_append_right _ (List.mem_append_right _ (List.mem_append_right _ (List.mem_append_right _ (List.mem_of_getElem? h)))))) g
theorem mk_tp (i : Nat) {q : MethodName × Nat} (h : lw_privs[i]? = some q) : Cond.selects q.1.cls q.1 q.1 ∈ mk_tb := List.mem_filter.mpr ⟨List.mem_append_left _ (List.mem_map.mpr ⟨q, List.mem_of_getElem? h, rfl⟩), rfl⟩
/-- a method: name, bytes, what it gives, its class, its locals, how many arguments (this one too), static -/
abbrev mk_T7 : Type := MethodName × ByteArray × Option FieldType × Nat × Nat × Nat × Bool
def mk_q0 : mk_T7 := (yX7_counter, cX7_counter, some .int, 7, 4, 3, false)
theorem mk_w0 : Cond.code mk_q0.1 mk_q0.2.1 mk_q0.2.2.2.2.1 mk_q0.2.2.1 ∈ mk_tb := mk_t2 192 rfl rfl
def mk_q1 : mk_T7 := (yX7_change, cX7_change, some .int, 7, 5, 4, false)
theorem mk_w1 : Cond.code mk_q1.1 mk_q1.2.1 mk_q1.2.2.2.2.1 mk_q1.2.2.1 ∈ mk_tb := mk_t2 197 rfl rfl
def mk_q2 : mk_T7 := (yX7_counterTold, cX7_counterTold, some .int, 7, 3, 3, false)
theorem mk_w2 : Cond.code mk_q2.1 mk_q2.2.1 mk_q2.2.2.2.2.1 mk_q2.2.2.1 ∈ mk_tb := mk_t2 212 rfl rfl
def mk_q3 : mk_T7 := (yX7_set, cX7_set, some .int, 7, 4, 3, false)
theorem mk_w3 : Cond.code mk_q3.1 mk_q3.2.1 mk_q3.2.2.2.2.1 mk_q3.2.2.1 ∈ mk_tb := mk_t2 216 rfl rfl
def mk_q4 : mk_T7 := (yX7_count, cX7_count, some .int, 7, 2, 2, false)
theorem mk_w4 : Cond.code mk_q4.1 mk_q4.2.1 mk_q4.2.2.2.2.1 mk_q4.2.2.1 ∈ mk_tb := mk_t2 227 rfl rfl
def mk_q5 : mk_T7 := (yX7_feed, cX7_feed, some .int, 7, 8, 7, false)
theorem mk_w5 : Cond.code mk_q5.1 mk_q5.2.1 mk_q5.2.2.2.2.1 mk_q5.2.2.1 ∈ mk_tb := mk_t2 231 rfl rfl
def mk_q6 : mk_T7 := (yX7_text, cX7_text, some .int, 7, 2, 1, false)
theorem mk_w6 : Cond.code mk_q6.1 mk_q6.2.1 mk_q6.2.2.2.2.1 mk_q6.2.2.1 ∈ mk_tb := mk_t2 81 rfl rfl
def mk_q7 : mk_T7 := (yX7_force, cX7_force, some .int, 7, 3, 2, false)
theorem mk_w7 : Cond.code mk_q7.1 mk_q7.2.1 mk_q7.2.2.2.2.1 mk_q7.2.2.1 ∈ mk_tb := mk_t2 239 rfl rfl
def mk_q8 : mk_T7 := (yX7_pull, cX7_pull, some .int, 7, 5, 4, false)
theorem mk_w8 : Cond.code mk_q8.1 mk_q8.2.1 mk_q8.2.2.2.2.1 mk_q8.2.2.1 ∈ mk_tb := mk_t3 3 rfl rfl
def mk_q9 : mk_T7 := (yX7_move, cX7_move, some .int, 7, 4, 3, false)
theorem mk_w9 : Cond.code mk_q9.1 mk_q9.2.1 mk_q9.2.2.2.2.1 mk_q9.2.2.1 ∈ mk_tb := mk_t3 14 rfl rfl
def mk_q10 : mk_T7 := (yX7_forget, cX7_forget, some .int, 7, 1, 1, false)
theorem mk_w10 : Cond.code mk_q10.1 mk_q10.2.1 mk_q10.2.2.2.2.1 mk_q10.2.2.1 ∈ mk_tb := mk_t3 22 rfl rfl
def mk_q11 : mk_T7 := (yX7_told, cX7_told, some .int, 7, 3, 3, false)
theorem mk_w11 : Cond.code mk_q11.1 mk_q11.2.1 mk_q11.2.2.2.2.1 mk_q11.2.2.1 ∈ mk_tb := mk_t3 26 rfl rfl
def mk_q12 : mk_T7 := (yX7_asks, cX7_asks, some .int, 7, 7, 6, false)
theorem mk_w12 : Cond.code mk_q12.1 mk_q12.2.1 mk_q12.2.2.2.2.1 mk_q12.2.2.1 ∈ mk_tb := mk_t3 34 rfl rfl
def mk_q13 : mk_T7 := (yX7_of, cX7_of, some .int, 7, 3, 3, false)
theorem mk_w13 : Cond.code mk_q13.1 mk_q13.2.1 mk_q13.2.2.2.2.1 mk_q13.2.2.1 ∈ mk_tb := mk_t3 64 rfl rfl
def mk_q14 : mk_T7 := (yX7_sum, cX7_sum, some .int, 7, 2, 2, false)
theorem mk_w14 : Cond.code mk_q14.1 mk_q14.2.1 mk_q14.2.2.2.2.1 mk_q14.2.2.1 ∈ mk_tb := mk_t3 137 rfl rfl
def mk_q15 : mk_T7 := (yX7_idle, cX7_idle, some .int, 7, 2, 2, false)
theorem mk_w15 : Cond.code mk_q15.1 mk_q15.2.1 mk_q15.2.2.2.2.1 mk_q15.2.2.1 ∈ mk_tb := mk_t3 167 rfl rfl
def mk_q16 : mk_T7 := (yX7_harmed, cX7_harmed, some .int, 7, 1, 1, false)
theorem mk_w16 : Cond.code mk_q16.1 mk_q16.2.1 mk_q16.2.2.2.2.1 mk_q16.2.2.1 ∈ mk_tb := mk_t3 171 rfl rfl
def mk_q17 : mk_T7 := (yX7_letter, cX7_letter, some .int, 7, 4, 3, false)
theorem mk_w17 : Cond.code mk_q17.1 mk_q17.2.1 mk_q17.2.2.2.2.1 mk_q17.2.2.1 ∈ mk_tb := mk_t3 179 rfl rfl
def mk_q18 : mk_T7 := (yX7_train, cX7_train, some .int, 7, 6, 3, false)
theorem mk_w18 : Cond.code mk_q18.1 mk_q18.2.1 mk_q18.2.2.2.2.1 mk_q18.2.2.1 ∈ mk_tb := mk_t3 195 rfl rfl
def mk_q19 : mk_T7 := (yX7_rest, cX7_rest, some .int, 7, 4, 3, false)
theorem mk_w19 : Cond.code mk_q19.1 mk_q19.2.1 mk_q19.2.2.2.2.1 mk_q19.2.2.1 ∈ mk_tb := mk_t3 212 rfl rfl
def mk_q20 : mk_T7 := (yX7_stop, cX7_stop, some .int, 7, 3, 2, false)
theorem mk_w20 : Cond.code mk_q20.1 mk_q20.2.1 mk_q20.2.2.2.2.1 mk_q20.2.2.1 ∈ mk_tb := mk_t3 216 rfl rfl
def mk_q21 : mk_T7 := (yX7_call, cX7_call, some .int, 7, 3, 2, false)
theorem mk_w21 : Cond.code mk_q21.1 mk_q21.2.1 mk_q21.2.2.2.2.1 mk_q21.2.2.1 ∈ mk_tb := mk_t3 228 rfl rfl
def mk_q22 : mk_T7 := (yX7_pay, cX7_pay, some .int, 7, 3, 2, false)
theorem mk_w22 : Cond.code mk_q22.1 mk_q22.2.1 mk_q22.2.2.2.2.1 mk_q22.2.2.1 ∈ mk_tb := mk_t3 232 rfl rfl
def mk_q23 : mk_T7 := (yX7_door, cX7_door, some .int, 7, 3, 2, false)
theorem mk_w23 : Cond.code mk_q23.1 mk_q23.2.1 mk_q23.2.2.2.2.1 mk_q23.2.2.1 ∈ mk_tb := mk_t4 2 rfl rfl
def mk_q24 : mk_T7 := (yX7_say, cX7_say, some .int, 7, 5, 2, false)
theorem mk_w24 : Cond.code mk_q24.1 mk_q24.2.1 mk_q24.2.2.2.2.1 mk_q24.2.2.1 ∈ mk_tb := mk_t4 6 rfl rfl
def mk_q25 : mk_T7 := (yX7_best, cX7_best, some .int, 7, 3, 3, false)
theorem mk_w25 : Cond.code mk_q25.1 mk_q25.2.1 mk_q25.2.2.2.2.1 mk_q25.2.2.1 ∈ mk_tb := mk_t4 10 rfl rfl
def mk_q26 : mk_T7 := (yX7_uneasy, cX7_uneasy, some .int, 7, 3, 1, false)
theorem mk_w26 : Cond.code mk_q26.1 mk_q26.2.1 mk_q26.2.2.2.2.1 mk_q26.2.2.1 ∈ mk_tb := mk_t4 22 rfl rfl
def mk_q27 : mk_T7 := (yX7_rests, cX7_rests, some .int, 7, 6, 2, false)
theorem mk_w27 : Cond.code mk_q27.1 mk_q27.2.1 mk_q27.2.2.2.2.1 mk_q27.2.2.1 ∈ mk_tb := mk_t4 30 rfl rfl
def mk_q28 : mk_T7 := (yX7_when, cX7_when, some .int, 7, 5, 4, false)
theorem mk_w28 : Cond.code mk_q28.1 mk_q28.2.1 mk_q28.2.2.2.2.1 mk_q28.2.2.1 ∈ mk_tb := mk_t4 34 rfl rfl
def mk_q29 : mk_T7 := (yX7_over, cX7_over, some .long, 7, 5, 4, false)
theorem mk_w29 : Cond.code mk_q29.1 mk_q29.2.1 mk_q29.2.2.2.2.1 mk_q29.2.2.1 ∈ mk_tb := mk_t4 38 rfl rfl
def mk_q30 : mk_T7 := (yX7_give, cX7_give, some .int, 7, 6, 4, false)
theorem mk_w30 : Cond.code mk_q30.1 mk_q30.2.1 mk_q30.2.2.2.2.1 mk_q30.2.2.1 ∈ mk_tb := mk_t4 57 rfl rfl
def mk_q31 : mk_T7 := (yX7_judge, cX7_judge, some .int, 7, 3, 2, false)
theorem mk_w31 : Cond.code mk_q31.1 mk_q31.2.1 mk_q31.2.2.2.2.1 mk_q31.2.2.1 ∈ mk_tb := mk_t4 62 rfl rfl
def mk_q32 : mk_T7 := (yX7_laws, cX7_laws, some .int, 7, 5, 2, false)
theorem mk_w32 : Cond.code mk_q32.1 mk_q32.2.1 mk_q32.2.2.2.2.1 mk_q32.2.2.1 ∈ mk_tb := mk_t4 81 rfl rfl
def mk_q33 : mk_T7 := (yX7_which, cX7_which, some .int, 7, 5, 2, false)
theorem mk_w33 : Cond.code mk_q33.1 mk_q33.2.1 mk_q33.2.2.2.2.1 mk_q33.2.2.1 ∈ mk_tb := mk_t4 85 rfl rfl
def mk_q34 : mk_T7 := (yX7_film, cX7_film, some .int, 7, 3, 2, false)
theorem mk_w34 : Cond.code mk_q34.1 mk_q34.2.1 mk_q34.2.2.2.2.1 mk_q34.2.2.1 ∈ mk_tb := mk_t4 89 rfl rfl
def mk_q35 : mk_T7 := (yX7_drawn, cX7_drawn, some .int, 7, 3, 3, false)
theorem mk_w35 : Cond.code mk_q35.1 mk_q35.2.1 mk_q35.2.2.2.2.1 mk_q35.2.2.1 ∈ mk_tb := mk_t4 101 rfl rfl
def mk_q36 : mk_T7 := (yX7_odds, cX7_odds, some .long, 7, 7, 5, false)
theorem mk_w36 : Cond.code mk_q36.1 mk_q36.2.1 mk_q36.2.2.2.2.1 mk_q36.2.2.1 ∈ mk_tb := mk_t4 113 rfl rfl
def mk_q37 : mk_T7 := (yX7_image, cX7_image, some .int, 7, 1, 1, false)
theorem mk_w37 : Cond.code mk_q37.1 mk_q37.2.1 mk_q37.2.2.2.2.1 mk_q37.2.2.1 ∈ mk_tb := mk_t4 120 rfl rfl
def mk_q38 : mk_T7 := (yX7_back, cX7_back, some .int, 7, 1, 1, false)
theorem mk_w38 : Cond.code mk_q38.1 mk_q38.2.1 mk_q38.2.2.2.2.1 mk_q38.2.2.1 ∈ mk_tb := mk_t4 124 rfl rfl
def mk_q39 : mk_T7 := (yX7_sheet, cX7_sheet, some .int, 7, 4, 4, false)
theorem mk_w39 : Cond.code mk_q39.1 mk_q39.2.1 mk_q39.2.2.2.2.1 mk_q39.2.2.1 ∈ mk_tb := mk_t4 128 rfl rfl
def mk_q40 : mk_T7 := (yX7_cell, cX7_cell, some .int, 7, 4, 4, false)
theorem mk_w40 : Cond.code mk_q40.1 mk_q40.2.1 mk_q40.2.2.2.2.1 mk_q40.2.2.1 ∈ mk_tb := mk_t4 132 rfl rfl
def mk_q41 : mk_T7 := (yX7_copy, cX7_copy, some .int, 7, 8, 6, false)
theorem mk_w41 : Cond.code mk_q41.1 mk_q41.2.1 mk_q41.2.2.2.2.1 mk_q41.2.2.1 ∈ mk_tb := mk_t4 136 rfl rfl
def mk_q42 : mk_T7 := (yX7_pulls, cX7_pulls, some .int, 7, 9, 5, false)
theorem mk_w42 : Cond.code mk_q42.1 mk_q42.2.1 mk_q42.2.2.2.2.1 mk_q42.2.2.1 ∈ mk_tb := mk_t4 143 rfl rfl
def mk_q43 : mk_T7 := (yX7_taken, cX7_taken, some .int, 7, 5, 3, false)
theorem mk_w43 : Cond.code mk_q43.1 mk_q43.2.1 mk_q43.2.2.2.2.1 mk_q43.2.2.1 ∈ mk_tb := mk_t4 148 rfl rfl
def mk_q44 : mk_T7 := (yX7_within, cX7_within, some .boolean, 7, 3, 3, true)
theorem mk_w44 : Cond.code mk_q44.1 mk_q44.2.1 mk_q44.2.2.2.2.1 mk_q44.2.2.1 ∈ mk_tb := mk_t2 92 rfl rfl
def mk_q45 : mk_T7 := (yX7_bounded, cX7_bounded, some .int, 7, 3, 3, true)
theorem mk_w45 : Cond.code mk_q45.1 mk_q45.2.1 mk_q45.2.2.2.2.1 mk_q45.2.2.1 ∈ mk_tb := mk_t3 48 rfl rfl
def mk_q46 : mk_T7 := (yX7_isByte, cX7_isByte, some .boolean, 7, 1, 1, true)
theorem mk_w46 : Cond.code mk_q46.1 mk_q46.2.1 mk_q46.2.2.2.2.1 mk_q46.2.2.1 ∈ mk_tb := mk_t2 234 rfl rfl
def mk_q47 : mk_T7 := (yX7_isPull, cX7_isPull, some .boolean, 7, 1, 1, true)
theorem mk_w47 : Cond.code mk_q47.1 mk_q47.2.1 mk_q47.2.2.2.2.1 mk_q47.2.2.1 ∈ mk_tb := mk_t3 6 rfl rfl
def mk_q48 : mk_T7 := (yX7_isSheet, cX7_isSheet, some .boolean, 7, 1, 1, true)
theorem mk_w48 : Cond.code mk_q48.1 mk_q48.2.1 mk_q48.2.2.2.2.1 mk_q48.2.2.1 ∈ mk_tb := mk_t4 69 rfl rfl
def mk_q49 : mk_T7 := (yX7_isCounter, cX7_isCounter, some .boolean, 7, 2, 2, false)
theorem mk_w49 : Cond.code mk_q49.1 mk_q49.2.1 mk_q49.2.2.2.2.1 mk_q49.2.2.1 ∈ mk_tb := mk_t2 201 rfl rfl
def mk_q50 : mk_T7 := (yX7_isAsker, cX7_isAsker, some .boolean, 7, 2, 2, false)
theorem mk_w50 : Cond.code mk_q50.1 mk_q50.2.1 mk_q50.2.2.2.2.1 mk_q50.2.2.1 ∈ mk_tb := mk_t3 18 rfl rfl
def mk_q51 : mk_T7 := (yX7_isOfCounter, cX7_isOfCounter, some .boolean, 7, 2, 2, true)
theorem mk_w51 : Cond.code mk_q51.1 mk_q51.2.1 mk_q51.2.2.2.2.1 mk_q51.2.2.1 ∈ mk_tb := mk_t2 204 rfl rfl
def mk_q52 : mk_T7 := (yX7_ofCounter, cX7_ofCounter, some .int, 7, 3, 3, false)
theorem mk_w52 : Cond.code mk_q52.1 mk_q52.2.1 mk_q52.2.2.2.2.1 mk_q52.2.2.1 ∈ mk_tb := mk_t2 208 rfl rfl
def mk_q53 : mk_T7 := (yX7_isOfHall, cX7_isOfHall, some .boolean, 7, 2, 2, true)
theorem mk_w53 : Cond.code mk_q53.1 mk_q53.2.1 mk_q53.2.2.2.2.1 mk_q53.2.2.1 ∈ mk_tb := mk_t2 219 rfl rfl
def mk_q54 : mk_T7 := (yX7_ofHall, cX7_ofHall, some .int, 7, 2, 2, false)
theorem mk_w54 : Cond.code mk_q54.1 mk_q54.2.1 mk_q54.2.2.2.2.1 mk_q54.2.2.1 ∈ mk_tb := mk_t2 223 rfl rfl
def mk_q55 : mk_T7 := (yX7_refusalOfRoll, cX7_refusalOfRoll, some .int, 7, 2, 2, false)
theorem mk_w55 : Cond.code mk_q55.1 mk_q55.2.1 mk_q55.2.2.2.2.1 mk_q55.2.2.1 ∈ mk_tb := mk_t4 66 rfl rfl
def mk_q56 : mk_T7 := (yX7_planAsItIs, cX7_planAsItIs, none, 7, 1, 1, false)
theorem mk_w56 : Cond.code mk_q56.1 mk_q56.2.1 mk_q56.2.2.2.2.1 mk_q56.2.2.1 ∈ mk_tb := mk_t3 72 rfl rfl
def mk_q57 : mk_T7 := (yX7_live, cX7_live, none, 7, 1, 1, false)
theorem mk_w57 : Cond.code mk_q57.1 mk_q57.2.1 mk_q57.2.2.2.2.1 mk_q57.2.2.1 ∈ mk_tb := mk_t3 80 rfl rfl
def mk_q58 : mk_T7 := (yX7_liveAsItIs, cX7_liveAsItIs, none, 7, 1, 1, false)
theorem mk_w58 : Cond.code mk_q58.1 mk_q58.2.1 mk_q58.2.2.2.2.1 mk_q58.2.2.1 ∈ mk_tb := mk_t3 68 rfl rfl
def mk_q59 : mk_T7 := (yX7_planDrawn, cX7_planDrawn, none, 7, 6, 2, false)
theorem mk_w59 : Cond.code mk_q59.1 mk_q59.2.1 mk_q59.2.2.2.2.1 mk_q59.2.2.1 ∈ mk_tb := mk_t4 106 rfl rfl
def mk_q60 : mk_T7 := (yX7_isTrained, cX7_isTrained, some .boolean, 7, 4, 4, false)
theorem mk_w60 : Cond.code mk_q60.1 mk_q60.2.1 mk_q60.2.2.2.2.1 mk_q60.2.2.1 ∈ mk_tb := mk_t3 199 rfl rfl
def mk_q61 : mk_T7 := (yX7_skillName, cX7_skillName, some .int, 7, 1, 1, true)
theorem mk_w61 : Cond.code mk_q61.1 mk_q61.2.1 mk_q61.2.2.2.2.1 mk_q61.2.2.1 ∈ mk_tb := mk_t3 208 rfl rfl
def mk_q62 : mk_T7 := (yX7_someoneComes, cX7_someoneComes, some .boolean, 7, 3, 2, false)
theorem mk_w62 : Cond.code mk_q62.1 mk_q62.2.1 mk_q62.2.2.2.2.1 mk_q62.2.2.1 ∈ mk_tb := mk_t3 220 rfl rfl
def mk_q63 : mk_T7 := (yX7_waitsOfOthers, cX7_waitsOfOthers, some .int, 7, 5, 2, false)
theorem mk_w63 : Cond.code mk_q63.1 mk_q63.2.1 mk_q63.2.2.2.2.1 mk_q63.2.2.1 ∈ mk_tb := mk_t3 236 rfl rfl
def mk_q64 : mk_T7 := (yX7_minded, cX7_minded, some .int, 7, 4, 4, false)
theorem mk_w64 : Cond.code mk_q64.1 mk_q64.2.1 mk_q64.2.2.2.2.1 mk_q64.2.2.1 ∈ mk_tb := mk_t3 59 rfl rfl
def mk_q65 : mk_T7 := (yX7_seekBest, cX7_seekBest, none, 7, 3, 2, false)
theorem mk_w65 : Cond.code mk_q65.1 mk_q65.2.1 mk_q65.2.2.2.2.1 mk_q65.2.2.1 ∈ mk_tb := mk_t4 14 rfl rfl
def mk_q66 : mk_T7 := (yX7_wouldMove, cX7_wouldMove, some .boolean, 7, 3, 2, false)
theorem mk_w66 : Cond.code mk_q66.1 mk_q66.2.1 mk_q66.2.2.2.2.1 mk_q66.2.2.1 ∈ mk_tb := mk_t4 26 rfl rfl
def mk_q67 : mk_T7 := (yX7_firstOtherwise, cX7_firstOtherwise, some .int, 7, 3, 2, false)
theorem mk_w67 : Cond.code mk_q67.1 mk_q67.2.1 mk_q67.2.2.2.2.1 mk_q67.2.2.1 ∈ mk_tb := mk_t4 77 rfl rfl
def mk_q68 : mk_T7 := (yX7_startParts, cX7_startParts, none, 7, 2, 1, false)
theorem mk_w68 : Cond.code mk_q68.1 mk_q68.2.1 mk_q68.2.2.2.2.1 mk_q68.2.2.1 ∈ mk_tb := mk_t4 43 rfl rfl
def mk_q69 : mk_T7 := (yX7_giveOneMore, cX7_giveOneMore, none, 7, 6, 3, false)
theorem mk_w69 : Cond.code mk_q69.1 mk_q69.2.1 mk_q69.2.2.2.2.1 mk_q69.2.2.1 ∈ mk_tb := mk_t4 48 rfl rfl
def mk_q70 : mk_T7 := (yX7_partsAbove, cX7_partsAbove, some .long, 7, 5, 2, false)
theorem mk_w70 : Cond.code mk_q70.1 mk_q70.2.1 mk_q70.2.2.2.2.1 mk_q70.2.2.1 ∈ mk_tb := mk_t4 53 rfl rfl
def mk_q71 : mk_T7 := (yX7_commonDivisor, cX7_commonDivisor, some .int, 7, 3, 2, true)
theorem mk_w71 : Cond.code mk_q71.1 mk_q71.2.1 mk_q71.2.2.2.2.1 mk_q71.2.2.1 ∈ mk_tb := mk_t4 116 rfl rfl
def mk_q72 : mk_T7 := (yX8_in, cX8_in, some .boolean, 8, 3, 3, true)
theorem mk_w72 : Cond.code mk_q72.1 mk_q72.2.1 mk_q72.2.2.2.2.1 mk_q72.2.2.1 ∈ mk_tb := mk_t4 171 rfl rfl
def mk_q73 : mk_T7 := (yX8_within, cX8_within, some .int, 8, 3, 3, true)
theorem mk_w73 : Cond.code mk_q73.1 mk_q73.2.1 mk_q73.2.2.2.2.1 mk_q73.2.2.1 ∈ mk_tb := mk_t5 220 rfl rfl
def mk_q74 : mk_T7 := (yX8_isCounter, cX8_isCounter, some .boolean, 8, 2, 2, false)
theorem mk_w74 : Cond.code mk_q74.1 mk_q74.2.1 mk_q74.2.2.2.2.1 mk_q74.2.2.1 ∈ mk_tb := mk_t5 145 rfl rfl
def mk_q75 : mk_T7 := (yX8_isAsker, cX8_isAsker, some .boolean, 8, 2, 2, false)
theorem mk_w75 : Cond.code mk_q75.1 mk_q75.2.1 mk_q75.2.2.2.2.1 mk_q75.2.2.1 ∈ mk_tb := mk_t5 186 rfl rfl
def mk_q76 : mk_T7 := (yX8_isTold, cX8_isTold, some .boolean, 8, 2, 2, true)
theorem mk_w76 : Cond.code mk_q76.1 mk_q76.2.1 mk_q76.2.2.2.2.1 mk_q76.2.2.1 ∈ mk_tb := mk_t5 137 rfl rfl
def mk_q77 : mk_T7 := (yX8_counter, cX8_counter, some .int, 8, 3, 3, false)
theorem mk_w77 : Cond.code mk_q77.1 mk_q77.2.1 mk_q77.2.2.2.2.1 mk_q77.2.2.1 ∈ mk_tb := mk_t5 134 rfl rfl
def mk_q78 : mk_T7 := (yX8_change, cX8_change, some .int, 8, 5, 4, false)
theorem mk_w78 : Cond.code mk_q78.1 mk_q78.2.1 mk_q78.2.2.2.2.1 mk_q78.2.2.1 ∈ mk_tb := mk_t5 141 rfl rfl
def mk_q79 : mk_T7 := (yX8_counterTold, cX8_counterTold, some .int, 8, 3, 3, false)
theorem mk_w79 : Cond.code mk_q79.1 mk_q79.2.1 mk_q79.2.2.2.2.1 mk_q79.2.2.1 ∈ mk_tb := mk_t5 149 rfl rfl
def mk_q80 : mk_T7 := (yX8_set, cX8_set, some .int, 8, 5, 3, false)
theorem mk_w80 : Cond.code mk_q80.1 mk_q80.2.1 mk_q80.2.2.2.2.1 mk_q80.2.2.1 ∈ mk_tb := mk_t5 153 rfl rfl
def mk_q81 : mk_T7 := (yX8_count, cX8_count, some .int, 8, 2, 2, false)
theorem mk_w81 : Cond.code mk_q81.1 mk_q81.2.1 mk_q81.2.2.2.2.1 mk_q81.2.2.1 ∈ mk_tb := mk_t5 157 rfl rfl
def mk_q82 : mk_T7 := (yX8_isByte, cX8_isByte, some .boolean, 8, 1, 1, true)
theorem mk_w82 : Cond.code mk_q82.1 mk_q82.2.1 mk_q82.2.2.2.2.1 mk_q82.2.2.1 ∈ mk_tb := mk_t5 165 rfl rfl
def mk_q83 : mk_T7 := (yX8_feed, cX8_feed, some .int, 8, 8, 7, false)
theorem mk_w83 : Cond.code mk_q83.1 mk_q83.2.1 mk_q83.2.2.2.2.1 mk_q83.2.2.1 ∈ mk_tb := mk_t5 162 rfl rfl
def mk_q84 : mk_T7 := (yX8_wordFrom, cX8_wordFrom, some .int, 8, 6, 3, false)
theorem mk_w84 : Cond.code mk_q84.1 mk_q84.2.1 mk_q84.2.2.2.2.1 mk_q84.2.2.1 ∈ mk_tb := mk_t4 175 rfl rfl
def mk_q85 : mk_T7 := (yX8_next, cX8_next, none, 8, 3, 1, false)
theorem mk_w85 : Cond.code mk_q85.1 mk_q85.2.1 mk_q85.2.2.2.2.1 mk_q85.2.2.1 ∈ mk_tb := mk_t4 168 rfl rfl
def mk_q86 : mk_T7 := (yX8_rank, cX8_rank, some .int, 8, 1, 1, true)
theorem mk_w86 : Cond.code mk_q86.1 mk_q86.2.1 mk_q86.2.2.2.2.1 mk_q86.2.2.1 ∈ mk_tb := mk_t4 191 rfl rfl
def mk_q87 : mk_T7 := (yX8_puts, cX8_puts, none, 8, 2, 2, false)
theorem mk_w87 : Cond.code mk_q87.1 mk_q87.2.1 mk_q87.2.2.2.2.1 mk_q87.2.2.1 ∈ mk_tb := mk_t4 184 rfl rfl
def mk_q88 : mk_T7 := (yX8_unwinds, cX8_unwinds, none, 8, 3, 2, false)
theorem mk_w88 : Cond.code mk_q88.1 mk_q88.2.1 mk_q88.2.2.2.2.1 mk_q88.2.2.1 ∈ mk_tb := mk_t4 188 rfl rfl
def mk_q89 : mk_T7 := (yX8_holds, cX8_holds, none, 8, 2, 2, false)
theorem mk_w89 : Cond.code mk_q89.1 mk_q89.2.1 mk_q89.2.2.2.2.1 mk_q89.2.2.1 ∈ mk_tb := mk_t4 199 rfl rfl
def mk_q90 : mk_T7 := (yX8_opensOne, cX8_opensOne, some .boolean, 8, 2, 2, false)
theorem mk_w90 : Cond.code mk_q90.1 mk_q90.2.1 mk_q90.2.2.2.2.1 mk_q90.2.2.1 ∈ mk_tb := mk_t4 195 rfl rfl
def mk_q91 : mk_T7 := (yX8_between, cX8_between, some .boolean, 8, 2, 2, false)
theorem mk_w91 : Cond.code mk_q91.1 mk_q91.2.1 mk_q91.2.2.2.2.1 mk_q91.2.2.1 ∈ mk_tb := mk_t4 207 rfl rfl
def mk_q92 : mk_T7 := (yX8_signOf, cX8_signOf, some .int, 8, 1, 1, false)
theorem mk_w92 : Cond.code mk_q92.1 mk_q92.2.1 mk_q92.2.2.2.2.1 mk_q92.2.2.1 ∈ mk_tb := mk_t4 203 rfl rfl
def mk_q93 : mk_T7 := (yX8_eRead, cX8_eRead, some .boolean, 8, 4, 1, false)
theorem mk_w93 : Cond.code mk_q93.1 mk_q93.2.1 mk_q93.2.2.2.2.1 mk_q93.2.2.1 ∈ mk_tb := mk_t4 179 rfl rfl
def mk_q94 : mk_T7 := (yX8_text, cX8_text, some .int, 8, 3, 1, false)
theorem mk_w94 : Cond.code mk_q94.1 mk_q94.2.1 mk_q94.2.2.2.2.1 mk_q94.2.2.1 ∈ mk_tb := mk_t4 164 rfl rfl
def mk_q95 : mk_T7 := (yX8_two, cX8_two, some .int, 8, 3, 3, true)
theorem mk_w95 : Cond.code mk_q95.1 mk_q95.2.1 mk_q95.2.2.2.2.1 mk_q95.2.2.1 ∈ mk_tb := mk_t5 217 rfl rfl
def mk_q96 : mk_T7 := (yX8_worth, cX8_worth, some .int, 8, 5, 2, false)
theorem mk_w96 : Cond.code mk_q96.1 mk_q96.2.1 mk_q96.2.2.2.2.1 mk_q96.2.2.1 ∈ mk_tb := mk_t5 214 rfl rfl
def mk_q97 : mk_T7 := (yX8_force, cX8_force, some .int, 8, 3, 2, false)
theorem mk_w97 : Cond.code mk_q97.1 mk_q97.2.1 mk_q97.2.2.2.2.1 mk_q97.2.2.1 ∈ mk_tb := mk_t5 170 rfl rfl
def mk_q98 : mk_T7 := (yX8_asksOf, cX8_asksOf, some .int, 8, 6, 6, false)
theorem mk_w98 : Cond.code mk_q98.1 mk_q98.2.1 mk_q98.2.2.2.2.1 mk_q98.2.2.1 ∈ mk_tb := mk_t5 210 rfl rfl
def mk_q99 : mk_T7 := (yX8_pull, cX8_pull, some .int, 8, 5, 4, false)
theorem mk_w99 : Cond.code mk_q99.1 mk_q99.2.1 mk_q99.2.2.2.2.1 mk_q99.2.2.1 ∈ mk_tb := mk_t5 174 rfl rfl
def mk_q100 : mk_T7 := (yX8_comesAs, cX8_comesAs, none, 8, 4, 4, false)
theorem mk_w100 : Cond.code mk_q100.1 mk_q100.2.1 mk_q100.2.2.2.2.1 mk_q100.2.2.1 ∈ mk_tb := mk_t5 178 rfl rfl
def mk_q101 : mk_T7 := (yX8_move, cX8_move, some .int, 8, 4, 3, false)
theorem mk_w101 : Cond.code mk_q101.1 mk_q101.2.1 mk_q101.2.2.2.2.1 mk_q101.2.2.1 ∈ mk_tb := mk_t5 182 rfl rfl
def mk_q102 : mk_T7 := (yX8_forget, cX8_forget, some .int, 8, 1, 1, false)
theorem mk_w102 : Cond.code mk_q102.1 mk_q102.2.1 mk_q102.2.2.2.2.1 mk_q102.2.2.1 ∈ mk_tb := mk_t5 190 rfl rfl
def mk_q103 : mk_T7 := (yX8_needs, cX8_needs, some .int, 8, 2, 2, false)
theorem mk_w103 : Cond.code mk_q103.1 mk_q103.2.1 mk_q103.2.2.2.2.1 mk_q103.2.2.1 ∈ mk_tb := mk_t5 198 rfl rfl
def mk_q104 : mk_T7 := (yX8_told, cX8_told, some .int, 8, 3, 3, false)
theorem mk_w104 : Cond.code mk_q104.1 mk_q104.2.1 mk_q104.2.2.2.2.1 mk_q104.2.2.1 ∈ mk_tb := mk_t5 194 rfl rfl
def mk_q105 : mk_T7 := (yX8_takesOf, cX8_takesOf, some .int, 8, 5, 4, false)
theorem mk_w105 : Cond.code mk_q105.1 mk_q105.2.1 mk_q105.2.2.2.2.1 mk_q105.2.2.1 ∈ mk_tb := mk_t5 206 rfl rfl
def mk_q106 : mk_T7 := (yX8_isThere, cX8_isThere, some .boolean, 8, 4, 3, false)
theorem mk_w106 : Cond.code mk_q106.1 mk_q106.2.1 mk_q106.2.2.2.2.1 mk_q106.2.2.1 ∈ mk_tb := mk_t5 224 rfl rfl
def mk_q107 : mk_T7 := (yX8_asks, cX8_asks, some .int, 8, 6, 6, false)
theorem mk_w107 : Cond.code mk_q107.1 mk_q107.2.1 mk_q107.2.2.2.2.1 mk_q107.2.2.1 ∈ mk_tb := mk_t5 202 rfl rfl
def mk_q108 : mk_T7 := (yX8_isAhead, cX8_isAhead, some .boolean, 8, 5, 3, false)
theorem mk_w108 : Cond.code mk_q108.1 mk_q108.2.1 mk_q108.2.2.2.2.1 mk_q108.2.2.1 ∈ mk_tb := mk_t6 4 rfl rfl
def mk_q109 : mk_T7 := (yX8_firstFor, cX8_firstFor, some .int, 8, 4, 2, false)
theorem mk_w109 : Cond.code mk_q109.1 mk_q109.2.1 mk_q109.2.2.2.2.1 mk_q109.2.2.1 ∈ mk_tb := mk_t6 0 rfl rfl
def mk_q110 : mk_T7 := (yX8_callsOne, cX8_callsOne, none, 8, 5, 4, false)
theorem mk_w110 : Cond.code mk_q110.1 mk_q110.2.1 mk_q110.2.2.2.2.1 mk_q110.2.2.1 ∈ mk_tb := mk_t6 8 rfl rfl
def mk_q111 : mk_T7 := (yX8_minute, cX8_minute, none, 8, 6, 2, false)
theorem mk_w111 : Cond.code mk_q111.1 mk_q111.2.1 mk_q111.2.2.2.2.1 mk_q111.2.2.1 ∈ mk_tb := mk_t5 236 rfl rfl
def mk_q112 : mk_T7 := (yX8_lives, cX8_lives, none, 8, 2, 1, false)
theorem mk_w112 : Cond.code mk_q112.1 mk_q112.2.1 mk_q112.2.2.2.2.1 mk_q112.2.2.1 ∈ mk_tb := mk_t5 232 rfl rfl
def mk_q113 : mk_T7 := (yX8_waitOf, cX8_waitOf, some .int, 8, 2, 2, false)
theorem mk_w113 : Cond.code mk_q113.1 mk_q113.2.1 mk_q113.2.2.2.2.1 mk_q113.2.2.1 ∈ mk_tb := mk_t6 12 rfl rfl
def mk_q114 : mk_T7 := (yX8_of, cX8_of, some .int, 8, 3, 3, false)
theorem mk_w114 : Cond.code mk_q114.1 mk_q114.2.1 mk_q114.2.2.2.2.1 mk_q114.2.2.1 ∈ mk_tb := mk_t5 228 rfl rfl
def mk_q115 : mk_T7 := (yX8_manyIn, cX8_manyIn, some .int, 8, 4, 2, false)
theorem mk_w115 : Cond.code mk_q115.1 mk_q115.2.1 mk_q115.2.2.2.2.1 mk_q115.2.2.1 ∈ mk_tb := mk_t6 24 rfl rfl
def mk_q116 : mk_T7 := (yX8_longest, cX8_longest, some .int, 8, 3, 1, false)
theorem mk_w116 : Cond.code mk_q116.1 mk_q116.2.1 mk_q116.2.2.2.2.1 mk_q116.2.2.1 ∈ mk_tb := mk_t6 32 rfl rfl
def mk_q117 : mk_T7 := (yX8_latest, cX8_latest, some .int, 8, 3, 1, false)
theorem mk_w117 : Cond.code mk_q117.1 mk_q117.2.1 mk_q117.2.2.2.2.1 mk_q117.2.2.1 ∈ mk_tb := mk_t6 36 rfl rfl
def mk_q118 : mk_T7 := (yX8_allWaits, cX8_allWaits, some .int, 8, 3, 1, false)
theorem mk_w118 : Cond.code mk_q118.1 mk_q118.2.1 mk_q118.2.2.2.2.1 mk_q118.2.2.1 ∈ mk_tb := mk_t6 28 rfl rfl
def mk_q119 : mk_T7 := (yX8_sumOf, cX8_sumOf, some .int, 8, 2, 2, false)
theorem mk_w119 : Cond.code mk_q119.1 mk_q119.2.1 mk_q119.2.2.2.2.1 mk_q119.2.2.1 ∈ mk_tb := mk_t6 20 rfl rfl
def mk_q120 : mk_T7 := (yX8_sum, cX8_sum, some .int, 8, 2, 2, false)
theorem mk_w120 : Cond.code mk_q120.1 mk_q120.2.1 mk_q120.2.2.2.2.1 mk_q120.2.2.1 ∈ mk_tb := mk_t6 16 rfl rfl
def mk_q121 : mk_T7 := (yX8_idle, cX8_idle, some .int, 8, 2, 2, false)
theorem mk_w121 : Cond.code mk_q121.1 mk_q121.2.1 mk_q121.2.2.2.2.1 mk_q121.2.2.1 ∈ mk_tb := mk_t6 40 rfl rfl
def mk_q122 : mk_T7 := (yX8_harmNow, cX8_harmNow, some .int, 8, 1, 1, false)
theorem mk_w122 : Cond.code mk_q122.1 mk_q122.2.1 mk_q122.2.2.2.2.1 mk_q122.2.2.1 ∈ mk_tb := mk_t6 48 rfl rfl
def mk_q123 : mk_T7 := (yX8_harmed, cX8_harmed, some .int, 8, 1, 1, false)
theorem mk_w123 : Cond.code mk_q123.1 mk_q123.2.1 mk_q123.2.2.2.2.1 mk_q123.2.2.1 ∈ mk_tb := mk_t6 44 rfl rfl
def mk_q124 : mk_T7 := (yX8_letter, cX8_letter, some .int, 8, 8, 3, false)
theorem mk_w124 : Cond.code mk_q124.1 mk_q124.2.1 mk_q124.2.2.2.2.1 mk_q124.2.2.1 ∈ mk_tb := mk_t6 52 rfl rfl
def mk_q125 : mk_T7 := (yX8_isWell, cX8_isWell, some .boolean, 8, 2, 2, false)
theorem mk_w125 : Cond.code mk_q125.1 mk_q125.2.1 mk_q125.2.2.2.2.1 mk_q125.2.2.1 ∈ mk_tb := mk_t6 60 rfl rfl
def mk_q126 : mk_T7 := (yX8_trains, cX8_trains, some .int, 8, 9, 3, false)
theorem mk_w126 : Cond.code mk_q126.1 mk_q126.2.1 mk_q126.2.2.2.2.1 mk_q126.2.2.1 ∈ mk_tb := mk_t6 64 rfl rfl
def mk_q127 : mk_T7 := (yX8_train, cX8_train, some .int, 8, 5, 3, false)
theorem mk_w127 : Cond.code mk_q127.1 mk_q127.2.1 mk_q127.2.2.2.2.1 mk_q127.2.2.1 ∈ mk_tb := mk_t6 56 rfl rfl
def mk_q128 : mk_T7 := (yX8_rest, cX8_rest, some .int, 8, 8, 3, false)
theorem mk_w128 : Cond.code mk_q128.1 mk_q128.2.1 mk_q128.2.2.2.2.1 mk_q128.2.2.1 ∈ mk_tb := mk_t6 68 rfl rfl
def mk_q129 : mk_T7 := (yX8_stop, cX8_stop, some .int, 8, 5, 2, false)
theorem mk_w129 : Cond.code mk_q129.1 mk_q129.2.1 mk_q129.2.2.2.2.1 mk_q129.2.2.1 ∈ mk_tb := mk_t6 72 rfl rfl
def mk_q130 : mk_T7 := (yX8_call, cX8_call, some .int, 8, 7, 2, false)
theorem mk_w130 : Cond.code mk_q130.1 mk_q130.2.1 mk_q130.2.2.2.2.1 mk_q130.2.2.1 ∈ mk_tb := mk_t6 76 rfl rfl
def mk_q131 : mk_T7 := (yX8_waitsBut, cX8_waitsBut, some .int, 8, 5, 2, false)
theorem mk_w131 : Cond.code mk_q131.1 mk_q131.2.1 mk_q131.2.2.2.2.1 mk_q131.2.2.1 ∈ mk_tb := mk_t6 84 rfl rfl
def mk_q132 : mk_T7 := (yX8_pay, cX8_pay, some .int, 8, 5, 2, false)
theorem mk_w132 : Cond.code mk_q132.1 mk_q132.2.1 mk_q132.2.2.2.2.1 mk_q132.2.2.1 ∈ mk_tb := mk_t6 80 rfl rfl
def mk_q133 : mk_T7 := (yX8_door, cX8_door, some .int, 8, 4, 2, false)
theorem mk_w133 : Cond.code mk_q133.1 mk_q133.2.1 mk_q133.2.2.2.2.1 mk_q133.2.2.1 ∈ mk_tb := mk_t6 88 rfl rfl
def mk_q134 : mk_T7 := (yX8_say, cX8_say, some .int, 8, 7, 2, false)
theorem mk_w134 : Cond.code mk_q134.1 mk_q134.2.1 mk_q134.2.2.2.2.1 mk_q134.2.2.1 ∈ mk_tb := mk_t6 92 rfl rfl
def mk_q135 : mk_T7 := (yX8_badFor, cX8_badFor, some .int, 8, 2, 2, false)
theorem mk_w135 : Cond.code mk_q135.1 mk_q135.2.1 mk_q135.2.2.2.2.1 mk_q135.2.2.1 ∈ mk_tb := mk_t6 104 rfl rfl
def mk_q136 : mk_T7 := (yX8_bestFor, cX8_bestFor, some .int, 8, 6, 2, false)
theorem mk_w136 : Cond.code mk_q136.1 mk_q136.2.1 mk_q136.2.2.2.2.1 mk_q136.2.2.1 ∈ mk_tb := mk_t6 100 rfl rfl
def mk_q137 : mk_T7 := (yX8_best, cX8_best, some .int, 8, 4, 3, false)
theorem mk_w137 : Cond.code mk_q137.1 mk_q137.2.1 mk_q137.2.2.2.2.1 mk_q137.2.2.1 ∈ mk_tb := mk_t6 96 rfl rfl
def mk_q138 : mk_T7 := (yX8_uneasy, cX8_uneasy, some .int, 8, 4, 1, false)
theorem mk_w138 : Cond.code mk_q138.1 mk_q138.2.1 mk_q138.2.2.2.2.1 mk_q138.2.2.1 ∈ mk_tb := mk_t6 108 rfl rfl
def mk_q139 : mk_T7 := (yX8_rests, cX8_rests, some .int, 8, 8, 2, false)
theorem mk_w139 : Cond.code mk_q139.1 mk_q139.2.1 mk_q139.2.2.2.2.1 mk_q139.2.2.1 ∈ mk_tb := mk_t6 112 rfl rfl
def mk_q140 : mk_T7 := (yX8_when, cX8_when, some .int, 8, 5, 4, false)
theorem mk_w140 : Cond.code mk_q140.1 mk_q140.2.1 mk_q140.2.2.2.2.1 mk_q140.2.2.1 ∈ mk_tb := mk_t6 116 rfl rfl
def mk_q141 : mk_T7 := (yX8_overOf, cX8_overOf, some .long, 8, 7, 4, false)
theorem mk_w141 : Cond.code mk_q141.1 mk_q141.2.1 mk_q141.2.2.2.2.1 mk_q141.2.2.1 ∈ mk_tb := mk_t6 124 rfl rfl
def mk_q142 : mk_T7 := (yX8_over, cX8_over, some .long, 8, 4, 4, false)
theorem mk_w142 : Cond.code mk_q142.1 mk_q142.2.1 mk_q142.2.2.2.2.1 mk_q142.2.2.1 ∈ mk_tb := mk_t6 120 rfl rfl
def mk_q143 : mk_T7 := (yX8_give, cX8_give, some .int, 8, 5, 4, false)
theorem mk_w143 : Cond.code mk_q143.1 mk_q143.2.1 mk_q143.2.2.2.2.1 mk_q143.2.2.1 ∈ mk_tb := mk_t6 131 rfl rfl
def mk_q144 : mk_T7 := (yX8_rollWrong, cX8_rollWrong, some .int, 8, 2, 2, false)
theorem mk_w144 : Cond.code mk_q144.1 mk_q144.2.1 mk_q144.2.2.2.2.1 mk_q144.2.2.1 ∈ mk_tb := mk_t6 140 rfl rfl
def mk_q145 : mk_T7 := (yX8_unlike, cX8_unlike, some .int, 8, 3, 2, false)
theorem mk_w145 : Cond.code mk_q145.1 mk_q145.2.1 mk_q145.2.2.2.2.1 mk_q145.2.2.1 ∈ mk_tb := mk_t6 144 rfl rfl
def mk_q146 : mk_T7 := (yX8_judge, cX8_judge, some .int, 8, 3, 2, false)
theorem mk_w146 : Cond.code mk_q146.1 mk_q146.2.1 mk_q146.2.2.2.2.1 mk_q146.2.2.1 ∈ mk_tb := mk_t6 136 rfl rfl
def mk_q147 : mk_T7 := (yX8_laws, cX8_laws, some .int, 8, 6, 2, false)
theorem mk_w147 : Cond.code mk_q147.1 mk_q147.2.1 mk_q147.2.2.2.2.1 mk_q147.2.2.1 ∈ mk_tb := mk_t6 148 rfl rfl
def mk_q148 : mk_T7 := (yX8_which, cX8_which, some .int, 8, 6, 2, false)
theorem mk_w148 : Cond.code mk_q148.1 mk_q148.2.1 mk_q148.2.2.2.2.1 mk_q148.2.2.1 ∈ mk_tb := mk_t6 152 rfl rfl
def mk_q149 : mk_T7 := (yX8_film, cX8_film, some .int, 8, 3, 2, false)
theorem mk_w149 : Cond.code mk_q149.1 mk_q149.2.1 mk_q149.2.2.2.2.1 mk_q149.2.2.1 ∈ mk_tb := mk_t6 156 rfl rfl
def mk_q150 : mk_T7 := (yX8_draws, cX8_draws, none, 8, 5, 2, false)
theorem mk_w150 : Cond.code mk_q150.1 mk_q150.2.1 mk_q150.2.2.2.2.1 mk_q150.2.2.1 ∈ mk_tb := mk_t6 165 rfl rfl
def mk_q151 : mk_T7 := (yX8_undraws, cX8_undraws, none, 8, 2, 1, false)
theorem mk_w151 : Cond.code mk_q151.1 mk_q151.2.1 mk_q151.2.2.2.2.1 mk_q151.2.2.1 ∈ mk_tb := mk_t6 172 rfl rfl
def mk_q152 : mk_T7 := (yX8_drawn, cX8_drawn, some .int, 8, 4, 3, false)
theorem mk_w152 : Cond.code mk_q152.1 mk_q152.2.1 mk_q152.2.2.2.2.1 mk_q152.2.2.1 ∈ mk_tb := mk_t6 160 rfl rfl
def mk_q153 : mk_T7 := (yX8_lowest, cX8_lowest, some .long, 8, 11, 3, true)
theorem mk_w153 : Cond.code mk_q153.1 mk_q153.2.1 mk_q153.2.2.2.2.1 mk_q153.2.2.1 ∈ mk_tb := mk_t6 179 rfl rfl
def mk_q154 : mk_T7 := (yX8_odds, cX8_odds, some .long, 8, 8, 5, false)
theorem mk_w154 : Cond.code mk_q154.1 mk_q154.2.1 mk_q154.2.2.2.2.1 mk_q154.2.2.1 ∈ mk_tb := mk_t6 176 rfl rfl
def mk_q155 : mk_T7 := (yX8_image, cX8_image, some .int, 8, 2, 1, false)
theorem mk_w155 : Cond.code mk_q155.1 mk_q155.2.1 mk_q155.2.2.2.2.1 mk_q155.2.2.1 ∈ mk_tb := mk_t6 183 rfl rfl
def mk_q156 : mk_T7 := (yX8_back, cX8_back, some .int, 8, 2, 1, false)
theorem mk_w156 : Cond.code mk_q156.1 mk_q156.2.1 mk_q156.2.2.2.2.1 mk_q156.2.2.1 ∈ mk_tb := mk_t6 187 rfl rfl
def mk_q157 : mk_T7 := (yX8_sheet, cX8_sheet, some .int, 8, 5, 4, false)
theorem mk_w157 : Cond.code mk_q157.1 mk_q157.2.1 mk_q157.2.2.2.2.1 mk_q157.2.2.1 ∈ mk_tb := mk_t6 191 rfl rfl
def mk_q158 : mk_T7 := (yX8_cell, cX8_cell, some .int, 8, 4, 4, false)
theorem mk_w158 : Cond.code mk_q158.1 mk_q158.2.1 mk_q158.2.2.2.2.1 mk_q158.2.2.1 ∈ mk_tb := mk_t6 195 rfl rfl
def mk_q159 : mk_T7 := (yX8_copy, cX8_copy, some .int, 8, 10, 6, false)
theorem mk_w159 : Cond.code mk_q159.1 mk_q159.2.1 mk_q159.2.2.2.2.1 mk_q159.2.2.1 ∈ mk_tb := mk_t6 199 rfl rfl
def mk_q160 : mk_T7 := (yX8_pulls, cX8_pulls, some .int, 8, 9, 5, false)
theorem mk_w160 : Cond.code mk_q160.1 mk_q160.2.1 mk_q160.2.2.2.2.1 mk_q160.2.2.1 ∈ mk_tb := mk_t6 203 rfl rfl
def mk_q161 : mk_T7 := (yX8_isUnder, cX8_isUnder, some .boolean, 8, 2, 2, true)
theorem mk_w161 : Cond.code mk_q161.1 mk_q161.2.1 mk_q161.2.2.2.2.1 mk_q161.2.2.1 ∈ mk_tb := mk_t6 211 rfl rfl
def mk_q162 : mk_T7 := (yX8_taken, cX8_taken, some .int, 8, 3, 3, false)
theorem mk_w162 : Cond.code mk_q162.1 mk_q162.2.1 mk_q162.2.2.2.2.1 mk_q162.2.2.1 ∈ mk_tb := mk_t6 208 rfl rfl
def mk_q163 : mk_T7 := (yX0_become, cX0_become, none, 0, 5, 5, false)
theorem mk_w163 : Cond.code mk_q163.1 mk_q163.2.1 mk_q163.2.2.2.2.1 mk_q163.2.2.1 ∈ mk_tb := mk_t3 10 rfl rfl
def mk_q164 : mk_T7 := (yX0_isA, cX0_isA, some .boolean, 0, 4, 2, false)
theorem mk_w164 : Cond.code mk_q164.1 mk_q164.2.1 mk_q164.2.2.2.2.1 mk_q164.2.2.1 ∈ mk_tb := mk_t4 152 rfl rfl
def mk_q165 : mk_T7 := (yX0_isOld, cX0_isOld, some .boolean, 0, 1, 1, false)
theorem mk_w165 : Cond.code mk_q165.1 mk_q165.2.1 mk_q165.2.2.2.2.1 mk_q165.2.2.1 ∈ mk_tb := mk_t3 97 rfl rfl
def mk_q166 : mk_T7 := (yX0_isBack, cX0_isBack, some .boolean, 0, 1, 1, false)
theorem mk_w166 : Cond.code mk_q166.1 mk_q166.2.1 mk_q166.2.2.2.2.1 mk_q166.2.2.1 ∈ mk_tb := mk_t3 101 rfl rfl
def mk_q167 : mk_T7 := (yX0_needs, cX0_needs, some .int, 0, 1, 1, false)
theorem mk_w167 : Cond.code mk_q167.1 mk_q167.2.1 mk_q167.2.2.2.2.1 mk_q167.2.2.1 ∈ mk_tb := mk_t3 30 rfl rfl
def mk_q168 : mk_T7 := (yX0_isThere, cX0_isThere, some .boolean, 0, 4, 3, false)
theorem mk_w168 : Cond.code mk_q168.1 mk_q168.2.1 mk_q168.2.2.2.2.1 mk_q168.2.2.1 ∈ mk_tb := mk_t3 52 rfl rfl
def mk_q169 : mk_T7 := (yX0_takes, cX0_takes, some .int, 0, 4, 3, false)
theorem mk_w169 : Cond.code mk_q169.1 mk_q169.2.1 mk_q169.2.2.2.2.1 mk_q169.2.2.1 ∈ mk_tb := mk_t3 45 rfl rfl
def mk_q170 : mk_T7 := (yX1_run, cX1_run, none, 1, 6, 3, false)
theorem mk_w170 : Cond.code mk_q170.1 mk_q170.2.1 mk_q170.2.2.2.2.1 mk_q170.2.2.1 ∈ mk_tb := mk_t3 84 rfl rfl
def mk_q171 : mk_T7 := (yX1_begin, cX1_begin, none, 1, 3, 2, false)
theorem mk_w171 : Cond.code mk_q171.1 mk_q171.2.1 mk_q171.2.2.2.2.1 mk_q171.2.2.1 ∈ mk_tb := mk_t3 88 rfl rfl
def mk_q172 : mk_T7 := (yX1_rank, cX1_rank, some .int, 1, 2, 2, false)
theorem mk_w172 : Cond.code mk_q172.1 mk_q172.2.1 mk_q172.2.2.2.2.1 mk_q172.2.2.1 ∈ mk_tb := mk_t3 93 rfl rfl
def mk_q173 : mk_T7 := (yX1_lineUp, cX1_lineUp, none, 1, 4, 3, false)
theorem mk_w173 : Cond.code mk_q173.1 mk_q173.2.1 mk_q173.2.2.2.2.1 mk_q173.2.2.1 ∈ mk_tb := mk_t3 105 rfl rfl
def mk_q174 : mk_T7 := (yX1_letIn, cX1_letIn, none, 1, 3, 2, false)
theorem mk_w174 : Cond.code mk_q174.1 mk_q174.2.1 mk_q174.2.2.2.2.1 mk_q174.2.2.1 ∈ mk_tb := mk_t3 109 rfl rfl
def mk_q175 : mk_T7 := (yX1_lookAround, cX1_lookAround, none, 1, 2, 1, false)
theorem mk_w175 : Cond.code mk_q175.1 mk_q175.2.1 mk_q175.2.2.2.2.1 mk_q175.2.2.1 ∈ mk_tb := mk_t3 113 rfl rfl
def mk_q176 : mk_T7 := (yX1_firstFor, cX1_firstFor, some .int, 1, 4, 2, false)
theorem mk_w176 : Cond.code mk_q176.1 mk_q176.2.1 mk_q176.2.2.2.2.1 mk_q176.2.2.1 ∈ mk_tb := mk_t3 122 rfl rfl
def mk_q177 : mk_T7 := (yX1_beckon, cX1_beckon, none, 1, 8, 6, false)
theorem mk_w177 : Cond.code mk_q177.1 mk_q177.2.1 mk_q177.2.2.2.2.1 mk_q177.2.2.1 ∈ mk_tb := mk_t3 126 rfl rfl
def mk_q178 : mk_T7 := (yX1_waited, cX1_waited, some .int, 1, 2, 2, false)
theorem mk_w178 : Cond.code mk_q178.1 mk_q178.2.1 mk_q178.2.2.2.2.1 mk_q178.2.2.1 ∈ mk_tb := mk_t3 133 rfl rfl
def mk_q179 : mk_T7 := (yX1_badFor, cX1_badFor, some .int, 1, 2, 2, false)
theorem mk_w179 : Cond.code mk_q179.1 mk_q179.2.1 mk_q179.2.2.2.2.1 mk_q179.2.2.1 ∈ mk_tb := mk_t4 18 rfl rfl
def mk_q180 : mk_T7 := (yX1_many, cX1_many, some .int, 1, 4, 2, false)
theorem mk_w180 : Cond.code mk_q180.1 mk_q180.2.1 mk_q180.2.2.2.2.1 mk_q180.2.2.1 ∈ mk_tb := mk_t3 145 rfl rfl
def mk_q181 : mk_T7 := (yX1_allWaits, cX1_allWaits, some .int, 1, 3, 1, false)
theorem mk_w181 : Cond.code mk_q181.1 mk_q181.2.1 mk_q181.2.2.2.2.1 mk_q181.2.2.1 ∈ mk_tb := mk_t3 149 rfl rfl
def mk_q182 : mk_T7 := (yX1_longest, cX1_longest, some .int, 1, 3, 1, false)
theorem mk_w182 : Cond.code mk_q182.1 mk_q182.2.1 mk_q182.2.2.2.2.1 mk_q182.2.2.1 ∈ mk_tb := mk_t3 154 rfl rfl
def mk_q183 : mk_T7 := (yX1_latestEnd, cX1_latestEnd, some .int, 1, 3, 1, false)
theorem mk_w183 : Cond.code mk_q183.1 mk_q183.2.1 mk_q183.2.2.2.2.1 mk_q183.2.2.1 ∈ mk_tb := mk_t3 159 rfl rfl
def mk_q184 : mk_T7 := (yX1_allIdled, cX1_allIdled, some .int, 1, 3, 1, false)
theorem mk_w184 : Cond.code mk_q184.1 mk_q184.2.1 mk_q184.2.2.2.2.1 mk_q184.2.2.1 ∈ mk_tb := mk_t3 163 rfl rfl
def mk_q185 : mk_T7 := (yX1_harm, cX1_harm, some .int, 1, 1, 1, false)
theorem mk_w185 : Cond.code mk_q185.1 mk_q185.2.1 mk_q185.2.2.2.2.1 mk_q185.2.2.1 ∈ mk_tb := mk_t3 175 rfl rfl
def mk_q186 : mk_T7 := (yX1_isOver, cX1_isOver, some .boolean, 1, 2, 2, false)
theorem mk_w186 : Cond.code mk_q186.1 mk_q186.2.1 mk_q186.2.2.2.2.1 mk_q186.2.2.1 ∈ mk_tb := mk_t3 224 rfl rfl
def mk_q187 : mk_T7 := (yX1_total, cX1_total, some .int, 1, 2, 2, false)
theorem mk_w187 : Cond.code mk_q187.1 mk_q187.2.1 mk_q187.2.2.2.2.1 mk_q187.2.2.1 ∈ mk_tb := mk_t3 141 rfl rfl
def mk_q188 : mk_T7 := (yX2_start, cX2_start, none, 2, 1, 1, false)
theorem mk_w188 : Cond.code mk_q188.1 mk_q188.2.1 mk_q188.2.2.2.2.1 mk_q188.2.2.1 ∈ mk_tb := mk_t3 183 rfl rfl
def mk_q189 : mk_T7 := (yX2_offer, cX2_offer, none, 2, 3, 3, false)
theorem mk_w189 : Cond.code mk_q189.1 mk_q189.2.1 mk_q189.2.2.2.2.1 mk_q189.2.2.1 ∈ mk_tb := mk_t3 187 rfl rfl
def mk_q190 : mk_T7 := (yX2_tell, cX2_tell, some .int, 2, 2, 2, false)
theorem mk_w190 : Cond.code mk_q190.1 mk_q190.2.1 mk_q190.2.2.2.2.1 mk_q190.2.2.1 ∈ mk_tb := mk_t3 191 rfl rfl
def mk_q191 : mk_T7 := (yX3_become, cX3_become, none, 3, 3, 2, false)
theorem mk_w191 : Cond.code mk_q191.1 mk_q191.2.1 mk_q191.2.2.2.2.1 mk_q191.2.2.1 ∈ mk_tb := mk_t3 76 rfl rfl
def mk_q192 : mk_T7 := (yX3_teach, cX3_teach, none, 3, 2, 2, false)
theorem mk_w192 : Cond.code mk_q192.1 mk_q192.2.1 mk_q192.2.2.2.2.1 mk_q192.2.2.1 ∈ mk_tb := mk_t3 203 rfl rfl
def mk_q193 : mk_T7 := (yX3_isPausing, cX3_isPausing, some .boolean, 3, 3, 3, false)
theorem mk_w193 : Cond.code mk_q193.1 mk_q193.2.1 mk_q193.2.2.2.2.1 mk_q193.2.2.1 ∈ mk_tb := mk_t3 117 rfl rfl
def mk_q194 : mk_T7 := (yX4_isMissing, cX4_isMissing, some .boolean, 4, 1, 1, false)
theorem mk_w194 : Cond.code mk_q194.1 mk_q194.2.1 mk_q194.2.2.2.2.1 mk_q194.2.2.1 ∈ mk_tb := mk_t4 73 rfl rfl
def mk_q195 : mk_T7 := (yX4_become, cX4_become, none, 4, 4, 3, false)
theorem mk_w195 : Cond.code mk_q195.1 mk_q195.2.1 mk_q195.2.2.2.2.1 mk_q195.2.2.1 ∈ mk_tb := mk_t4 93 rfl rfl
def mk_q196 : mk_T7 := (yX4_write, cX4_write, none, 4, 3, 3, false)
theorem mk_w196 : Cond.code mk_q196.1 mk_q196.2.1 mk_q196.2.2.2.2.1 mk_q196.2.2.1 ∈ mk_tb := mk_t4 97 rfl rfl
def mk_q197 : mk_T7 := (yX5_append, cX5_append, none, 5, 2, 2, false)
theorem mk_w197 : Cond.code mk_q197.1 mk_q197.2.1 mk_q197.2.2.2.2.1 mk_q197.2.2.1 ∈ mk_tb := mk_t2 77 rfl rfl
def mk_q198 : mk_T7 := (yX5_read, cX5_read, some .int, 5, 2, 1, false)
theorem mk_w198 : Cond.code mk_q198.1 mk_q198.2.1 mk_q198.2.2.2.2.1 mk_q198.2.2.1 ∈ mk_tb := mk_t2 85 rfl rfl
def mk_q199 : mk_T7 := (yX5_skip, cX5_skip, some .boolean, 5, 2, 2, false)
theorem mk_w199 : Cond.code mk_q199.1 mk_q199.2.1 mk_q199.2.2.2.2.1 mk_q199.2.2.1 ∈ mk_tb := mk_t2 117 rfl rfl
def mk_q200 : mk_T7 := (yX5_tell, cX5_tell, none, 5, 2, 2, false)
theorem mk_w200 : Cond.code mk_q200.1 mk_q200.2.1 mk_q200.2.2.2.2.1 mk_q200.2.2.1 ∈ mk_tb := mk_t2 141 rfl rfl
def mk_q201 : mk_T7 := (yX5_readEither, cX5_readEither, some .boolean, 5, 4, 2, false)
theorem mk_w201 : Cond.code mk_q201.1 mk_q201.2.1 mk_q201.2.2.2.2.1 mk_q201.2.2.1 ∈ mk_tb := mk_t2 121 rfl rfl
def mk_q202 : mk_T7 := (yX5_readBoth, cX5_readBoth, some .boolean, 5, 4, 2, false)
theorem mk_w202 : Cond.code mk_q202.1 mk_q202.2.1 mk_q202.2.2.2.2.1 mk_q202.2.2.1 ∈ mk_tb := mk_t2 125 rfl rfl
def mk_q203 : mk_T7 := (yX5_readNot, cX5_readNot, some .boolean, 5, 4, 2, false)
theorem mk_w203 : Cond.code mk_q203.1 mk_q203.2.1 mk_q203.2.2.2.2.1 mk_q203.2.2.1 ∈ mk_tb := mk_t2 129 rfl rfl
def mk_q204 : mk_T7 := (yX5_readSum, cX5_readSum, some .boolean, 5, 5, 2, false)
theorem mk_w204 : Cond.code mk_q204.1 mk_q204.2.1 mk_q204.2.2.2.2.1 mk_q204.2.2.1 ∈ mk_tb := mk_t2 145 rfl rfl
def mk_q205 : mk_T7 := (yX5_readTerm, cX5_readTerm, some .boolean, 5, 4, 2, false)
theorem mk_w205 : Cond.code mk_q205.1 mk_q205.2.1 mk_q205.2.2.2.2.1 mk_q205.2.2.1 ∈ mk_tb := mk_t2 149 rfl rfl
def mk_q206 : mk_T7 := (yX5_readOne, cX5_readOne, some .boolean, 5, 3, 2, false)
theorem mk_w206 : Cond.code mk_q206.1 mk_q206.2.1 mk_q206.2.2.2.2.1 mk_q206.2.2.1 ∈ mk_tb := mk_t2 137 rfl rfl
def mk_q207 : mk_T7 := (yX5_readBehind, cX5_readBehind, some .boolean, 5, 4, 3, false)
theorem mk_w207 : Cond.code mk_q207.1 mk_q207.2.1 mk_q207.2.2.2.2.1 mk_q207.2.2.1 ∈ mk_tb := mk_t2 133 rfl rfl
def mk_q208 : mk_T7 := (yX5_step, cX5_step, none, 5, 2, 1, false)
theorem mk_w208 : Cond.code mk_q208.1 mk_q208.2.1 mk_q208.2.2.2.2.1 mk_q208.2.2.1 ∈ mk_tb := mk_t2 89 rfl rfl
def mk_q209 : mk_T7 := (yX5_passAll, cX5_passAll, none, 5, 3, 3, false)
theorem mk_w209 : Cond.code mk_q209.1 mk_q209.2.1 mk_q209.2.2.2.2.1 mk_q209.2.2.1 ∈ mk_tb := mk_t2 96 rfl rfl
def mk_q210 : mk_T7 := (yX5_isSign, cX5_isSign, some .boolean, 5, 1, 1, true)
theorem mk_w210 : Cond.code mk_q210.1 mk_q210.2.1 mk_q210.2.2.2.2.1 mk_q210.2.2.1 ∈ mk_tb := mk_t2 113 rfl rfl
def mk_q211 : mk_T7 := (yX5_numberToken, cX5_numberToken, some .int, 5, 2, 1, false)
theorem mk_w211 : Cond.code mk_q211.1 mk_q211.2.1 mk_q211.2.2.2.2.1 mk_q211.2.2.1 ∈ mk_tb := mk_t2 110 rfl rfl
def mk_q212 : mk_T7 := (yX5_wordToken, cX5_wordToken, some .int, 5, 2, 1, false)
theorem mk_w212 : Cond.code mk_q212.1 mk_q212.2.1 mk_q212.2.2.2.2.1 mk_q212.2.2.1 ∈ mk_tb := mk_t2 100 rfl rfl
def mk_q213 : mk_T7 := (yX5_isWord, cX5_isWord, some .boolean, 5, 4, 2, false)
theorem mk_w213 : Cond.code mk_q213.1 mk_q213.2.1 mk_q213.2.2.2.2.1 mk_q213.2.2.1 ∈ mk_tb := mk_t2 104 rfl rfl
def mk_q214 : mk_T7 := (yX6_become, cX6_become, none, 6, 3, 2, false)
theorem mk_w214 : Cond.code mk_q214.1 mk_q214.2.1 mk_q214.2.2.2.2.1 mk_q214.2.2.1 ∈ mk_tb := mk_t2 153 rfl rfl
def mk_q215 : mk_T7 := (yX6_worth, cX6_worth, some .int, 6, 11, 6, false)
theorem mk_w215 : Cond.code mk_q215.1 mk_q215.2.1 mk_q215.2.2.2.2.1 mk_q215.2.2.1 ∈ mk_tb := mk_t3 38 rfl rfl
def mk_q216 : mk_T7 := (yX6_joined, cX6_joined, some .int, 6, 3, 3, true)
theorem mk_w216 : Cond.code mk_q216.1 mk_q216.2.1 mk_q216.2.2.2.2.1 mk_q216.2.2.1 ∈ mk_tb := mk_t3 41 rfl rfl
def mk_MI : List mk_T7 := [mk_q0, mk_q1, mk_q2, mk_q3, mk_q4, mk_q5, mk_q6, mk_q7, mk_q8, mk_q9, mk_q10, mk_q11, mk_q12, mk_q13, mk_q14, mk_q15, mk_q16, mk_q17, mk_q18, mk_q19, mk_q20, mk_q21, mk_q22, mk_q23, mk_q24, mk_q25, mk_q26, mk_q27, mk_q28, mk_q29, mk_q30, mk_q31, mk_q32, mk_q33, mk_q34, mk_q35, mk_q36, mk_q37, mk_q38, mk_q39, mk_q40, mk_q41, mk_q42, mk_q43, mk_q44, mk_q45, mk_q46, mk_q47, mk_q48, mk_q49, mk_q50, mk_q51, mk_q52, mk_q53, mk_q54, mk_q55, mk_q56, mk_q57, mk_q58, mk_q59, mk_q60, mk_q61, mk_q62, mk_q63, mk_q64, mk_q65, mk_q66, mk_q67, mk_q68, mk_q69, mk_q70, mk_q71, mk_q72, mk_q73, mk_q74, mk_q75, mk_q76, mk_q77, mk_q78, mk_q79, mk_q80, mk_q81, mk_q82, mk_q83, mk_q84, mk_q85, mk_q86, mk_q87, mk_q88, mk_q89, mk_q90, mk_q91, mk_q92, mk_q93, mk_q94, mk_q95, mk_q96, mk_q97, mk_q98, mk_q99, mk_q100, mk_q101, mk_q102, mk_q103, mk_q104, mk_q105, mk_q106, mk_q107, mk_q108, mk_q109, mk_q110, mk_q111, mk_q112, mk_q113, mk_q114, mk_q115, mk_q116, mk_q117, mk_q118, mk_q119, mk_q120, mk_q121, mk_q122, mk_q123, mk_q124, mk_q125, mk_q126, mk_q127, mk_q128, mk_q129, mk_q130, mk_q131, mk_q132, mk_q133, mk_q134, mk_q135, mk_q136, mk_q137, mk_q138, mk_q139, mk_q140, mk_q141, mk_q142, mk_q143, mk_q144, mk_q145, mk_q146, mk_q147, mk_q148, mk_q149, mk_q150, mk_q151, mk_q152, mk_q153, mk_q154, mk_q155, mk_q156, mk_q157, mk_q158, mk_q159, mk_q160, mk_q161, mk_q162, mk_q163, mk_q164, mk_q165, mk_q166, mk_q167, mk_q168, mk_q169, mk_q170, mk_q171, mk_q172, mk_q173, mk_q174, mk_q175, mk_q176, mk_q177, mk_q178, mk_q179, mk_q180, mk_q181, mk_q182, mk_q183, mk_q184, mk_q185, mk_q186, mk_q187, mk_q188, mk_q189, mk_q190, mk_q191, mk_q192, mk_q193, mk_q194, mk_q195, mk_q196, mk_q197, mk_q198, mk_q199, mk_q200, mk_q201, mk_q202, mk_q203, mk_q204, mk_q205, mk_q206, mk_q207, mk_q208, mk_q209, mk_q210, mk_q211, mk_q212, mk_q213, mk_q214, mk_q215, mk_q216]
set_option maxRecDepth 100000 in
theorem mk_MIw : ∀ q ∈ mk_MI, Cond.code q.1 q.2.1 q.2.2.2.2.1 q.2.2.1 ∈ mk_tb := List.forall_mem_cons.mpr ⟨mk_w0, List.forall_mem_cons.mpr ⟨mk_w1, List.forall_mem_cons.mpr ⟨mk_w2, List.forall_mem_cons.mpr ⟨mk_w3, List.forall_mem_cons.mpr ⟨mk_w4, List.forall_mem_cons.mpr ⟨mk_w5, List.forall_mem_cons.mpr ⟨mk_w6, List.forall_mem_cons.mpr ⟨mk_w7, List.forall_mem_cons.mpr ⟨mk_w8, List.forall_mem_cons.mpr ⟨mk_w9, List.forall_mem_cons.mpr ⟨mk_w10, List.forall_mem_cons.mpr ⟨mk_w11, List.forall_mem_cons.mpr ⟨mk_w12, List.forall_mem_cons.mpr ⟨mk_w13, List.forall_mem_cons.mpr ⟨mk_w14, List.forall_mem_cons.mpr ⟨mk_w15, List.forall_mem_cons.mpr ⟨mk_w16, List.forall_mem_cons.mpr ⟨mk_w17, List.forall_mem_cons.mpr ⟨mk_w18, List.forall_mem_cons.mpr ⟨mk_w19, List.forall_mem_cons.mpr ⟨mk_w20, List.forall_mem_cons.mpr ⟨mk_w21, List.forall_mem_cons.mpr ⟨mk_w22, List.forall_mem_cons.mpr ⟨mk_w23, List.forall_mem_cons.mpr ⟨mk_w24, List.forall_mem_cons.mpr ⟨mk_w25, List.forall_mem_cons.mpr ⟨mk_w26, List.forall_mem_cons.mpr ⟨mk_w27, List.forall_mem_cons.mpr ⟨mk_w28, List.forall_mem_cons.mpr ⟨mk_w29, List.forall_mem_cons.mpr ⟨mk_w30, List.forall_mem_cons.mpr ⟨mk_w31, List.forall_mem_cons.mpr ⟨mk_w32, List.forall_mem_cons.mpr ⟨mk_w33, List.forall_mem_cons.mpr ⟨mk_w34, List.forall_mem_cons.mpr ⟨mk_w35, List.forall_mem_cons.mpr ⟨mk_w36, List.forall_mem_cons.mpr ⟨mk_w37, List.forall_mem_cons.mpr ⟨mk_w38, List.forall_mem_cons.mpr ⟨mk_w39, List.forall_mem_cons.mpr ⟨mk_w40, List.forall_mem_cons.mpr ⟨mk_w41, List.forall_mem_cons.mpr ⟨mk_w42, List.forall_mem_cons.mpr ⟨mk_w43, List.forall_mem_cons.mpr ⟨mk_w44, List.forall_mem_cons.mpr ⟨mk_w45, List.forall_mem_cons.mpr ⟨mk_w46, List.forall_mem_cons.mpr ⟨mk_w47, List.forall_mem_cons.mpr ⟨mk_w48, List.forall_mem_cons.mpr ⟨mk_w49, List.forall_mem_cons.mpr ⟨mk_w50, List.forall_mem_cons.mpr ⟨mk_w51, List.forall_mem_cons.mpr ⟨mk_w52, List.forall_mem_cons.mpr ⟨mk_w53, List.forall_mem_cons.mpr ⟨mk_w54, List.forall_mem_cons.mpr ⟨mk_w55, List.forall_mem_cons.mpr ⟨mk_w56, List.forall_mem_cons.mpr ⟨mk_w57, List.forall_mem_cons.mpr ⟨mk_w58, List.forall_mem_cons.mpr ⟨mk_w59, List.forall_mem_cons.mpr ⟨mk_w60, List.forall_mem_cons.mpr ⟨mk_w61, List.forall_mem_cons.mpr ⟨mk_w62, List.forall_mem_cons.mpr ⟨mk_w63, List.forall_mem_cons.mpr ⟨mk_w64, List.forall_mem_cons.mpr ⟨mk_w65, List.forall_mem_cons.mpr ⟨mk_w66, List.forall_mem_cons.mpr ⟨mk_w67, List.forall_mem_cons.mpr ⟨mk_w68, List.forall_mem_cons.mpr ⟨mk_w69, List.forall_mem_cons.mpr ⟨mk_w70, List.forall_mem_cons.mpr ⟨mk_w71, List.forall_mem_cons.mpr ⟨mk_w72, List.forall_mem_cons.mpr ⟨mk_w73, List.forall_mem_cons.mpr ⟨mk_w74, List.forall_mem_cons.mpr ⟨mk_w75, List.forall_mem_cons.mpr ⟨mk_w76, List.forall_mem_cons.mpr ⟨mk_w77, List.forall_mem_cons.mpr ⟨mk_w78, List.forall_mem_cons.mpr ⟨mk_w79, List.forall_mem_cons.mpr ⟨mk_w80, List.forall_mem_cons.mpr ⟨mk_w81, List.forall_mem_cons.mpr ⟨mk_w82, List.forall_mem_cons.mpr ⟨mk_w83, List.forall_mem_cons.mpr ⟨mk_w84, List.forall_mem_cons.mpr ⟨mk_w85, List.forall_mem_cons.mpr ⟨mk_w86, List.forall_mem_cons.mpr ⟨mk_w87, List.forall_mem_cons.mpr ⟨mk_w88, List.forall_mem_cons.mpr ⟨mk_w89, List.forall_mem_cons.mpr ⟨mk_w90, List.forall_mem_cons.mpr ⟨mk_w91, List.forall_mem_cons.mpr ⟨mk_w92, List.forall_mem_cons.mpr ⟨mk_w93, List.forall_mem_cons.mpr ⟨mk_w94, List.forall_mem_cons.mpr ⟨mk_w95, List.forall_mem_cons.mpr ⟨mk_w96, List.forall_mem_cons.mpr ⟨mk_w97, List.forall_mem_cons.mpr ⟨mk_w98, List.forall_mem_cons.mpr ⟨mk_w99, List.forall_mem_cons.mpr ⟨mk_w100, List.forall_mem_cons.mpr ⟨mk_w101, List.forall_mem_cons.mpr ⟨mk_w102, List.forall_mem_cons.mpr ⟨mk_w103, List.forall_mem_cons.mpr ⟨mk_w104, List.forall_mem_cons.mpr ⟨mk_w105, List.forall_mem_cons.mpr ⟨mk_w106, List.forall_mem_cons.mpr ⟨mk_w107, List.forall_mem_cons.mpr ⟨mk_w108, List.forall_mem_cons.mpr ⟨mk_w109, List.forall_mem_cons.mpr ⟨mk_w110, List.forall_mem_cons.mpr ⟨mk_w111, List.forall_mem_cons.mpr ⟨mk_w112, List.forall_mem_cons.mpr ⟨mk_w113, List.forall_mem_cons.mpr ⟨mk_w114, List.forall_mem_cons.mpr ⟨mk_w115, List.forall_mem_cons.mpr ⟨mk_w116, List.forall_mem_cons.mpr ⟨mk_w117, List.forall_mem_cons.mpr ⟨mk_w118, List.forall_mem_cons.mpr ⟨mk_w119, List.forall_mem_cons.mpr ⟨mk_w120, List.forall_mem_cons.mpr ⟨mk_w121, List.forall_mem_cons.mpr ⟨mk_w122, List.forall_mem_cons.mpr ⟨mk_w123, List.forall_mem_cons.mpr ⟨mk_w124, List.forall_mem_cons.mpr ⟨mk_w125, List.forall_mem_cons.mpr ⟨mk_w126, List.forall_mem_cons.mpr ⟨mk_w127, List.forall_mem_cons.mpr ⟨mk_w128, List.forall_mem_cons.mpr ⟨mk_w129, List.forall_mem_cons.mpr ⟨mk_w130, List.forall_mem_cons.mpr ⟨mk_w131, List.forall_mem_cons.mpr ⟨mk_w132, List.forall_mem_cons.mpr ⟨mk_w133, List.forall_mem_cons.mpr ⟨mk_w134, List.forall_mem_cons.mpr ⟨mk_w135, List.forall_mem_cons.mpr ⟨mk_w136, List.forall_mem_cons.mpr ⟨mk_w137, List.forall_mem_cons.mpr ⟨mk_w138, List.forall_mem_cons.mpr ⟨mk_w139, List.forall_mem_cons.mpr ⟨mk_w140, List.forall_mem_cons.mpr ⟨mk_w141, List.forall_mem_cons.mpr ⟨mk_w142, List.forall_mem_cons.mpr ⟨mk_w143, List.forall_mem_cons.mpr ⟨mk_w144, List.forall_mem_cons.mpr ⟨mk_w145, List.forall_mem_cons.mpr ⟨mk_w146, List.forall_mem_cons.mpr ⟨mk_w147, List.forall_mem_cons.mpr ⟨mk_w148, List.forall_mem_cons.mpr ⟨mk_w149, List.forall_mem_cons.mpr ⟨mk_w150, List.forall_mem_cons.mpr ⟨mk_w151, List.forall_mem_cons.mpr ⟨mk_w152, List.forall_mem_cons.mpr ⟨mk_w153, List.forall_mem_cons.mpr ⟨mk_w154, List.forall_mem_cons.mpr ⟨mk_w155, List.forall_mem_cons.mpr ⟨mk_w156, List.forall_mem_cons.mpr ⟨mk_w157, List.forall_mem_cons.mpr ⟨mk_w158, List.forall_mem_cons.mpr ⟨mk_w159, List.forall_mem_cons.mpr ⟨mk_w160, List.forall_mem_cons.mpr ⟨mk_w161, List.forall_mem_cons.mpr ⟨mk_w162, List.forall_mem_cons.mpr ⟨mk_w163, List.forall_mem_cons.mpr ⟨mk_w164, List.forall_mem_cons.mpr ⟨mk_w165, List.forall_mem_cons.mpr ⟨mk_w166, List.forall_mem_cons.mpr ⟨mk_w167, List.forall_mem_cons.mpr ⟨mk_w168, List.forall_mem_cons.mpr ⟨mk_w169, List.forall_mem_cons.mpr ⟨mk_w170, List.forall_mem_cons.mpr ⟨mk_w171, List.forall_mem_cons.mpr ⟨mk_w172, List.forall_mem_cons.mpr ⟨mk_w173, List.forall_mem_cons.mpr ⟨mk_w174, List.forall_mem_cons.mpr ⟨mk_w175, List.forall_mem_cons.mpr ⟨mk_w176, List.forall_mem_cons.mpr ⟨mk_w177, List.forall_mem_cons.mpr ⟨mk_w178, List.forall_mem_cons.mpr ⟨mk_w179, List.forall_mem_cons.mpr ⟨mk_w180, List.forall_mem_cons.mpr ⟨mk_w181, List.forall_mem_cons.mpr ⟨mk_w182, List.forall_mem_cons.mpr ⟨mk_w183, List.forall_mem_cons.mpr ⟨mk_w184, List.forall_mem_cons.mpr ⟨mk_w185, List.forall_mem_cons.mpr ⟨mk_w186, List.forall_mem_cons.mpr ⟨mk_w187, List.forall_mem_cons.mpr ⟨mk_w188, List.forall_mem_cons.mpr ⟨mk_w189, List.forall_mem_cons.mpr ⟨mk_w190, List.forall_mem_cons.mpr ⟨mk_w191, List.forall_mem_cons.mpr ⟨mk_w192, List.forall_mem_cons.mpr ⟨mk_w193, List.forall_mem_cons.mpr ⟨mk_w194, List.forall_mem_cons.mpr ⟨mk_w195, List.forall_mem_cons.mpr ⟨mk_w196, List.forall_mem_cons.mpr ⟨mk_w197, List.forall_mem_cons.mpr ⟨mk_w198, List.forall_mem_cons.mpr ⟨mk_w199, List.forall_mem_cons.mpr ⟨mk_w200, List.forall_mem_cons.mpr ⟨mk_w201, List.forall_mem_cons.mpr ⟨mk_w202, List.forall_mem_cons.mpr ⟨mk_w203, List.forall_mem_cons.mpr ⟨mk_w204, List.forall_mem_cons.mpr ⟨mk_w205, List.forall_mem_cons.mpr ⟨mk_w206, List.forall_mem_cons.mpr ⟨mk_w207, List.forall_mem_cons.mpr ⟨mk_w208, List.forall_mem_cons.mpr ⟨mk_w209, List.forall_mem_cons.mpr ⟨mk_w210, List.forall_mem_cons.mpr ⟨mk_w211, List.forall_mem_cons.mpr ⟨mk_w212, List.forall_mem_cons.mpr ⟨mk_w213, List.forall_mem_cons.mpr ⟨mk_w214, List.forall_mem_cons.mpr ⟨mk_w215, List.forall_mem_cons.mpr ⟨mk_w216, fun _ h => absurd h List.not_mem_nil⟩⟩⟩⟩⟩⟩⟩⟩⟩⟩⟩⟩⟩⟩⟩⟩⟩⟩⟩⟩⟩⟩⟩⟩⟩⟩⟩⟩⟩⟩⟩⟩⟩⟩⟩⟩⟩⟩⟩⟩⟩⟩⟩⟩⟩⟩⟩⟩⟩⟩⟩⟩⟩⟩⟩⟩⟩⟩⟩⟩⟩⟩⟩⟩⟩⟩⟩⟩⟩⟩⟩⟩⟩⟩⟩⟩⟩⟩⟩⟩⟩⟩⟩⟩⟩⟩⟩⟩⟩⟩⟩⟩⟩⟩⟩⟩⟩⟩⟩⟩⟩⟩⟩⟩⟩⟩⟩⟩⟩⟩⟩⟩⟩⟩⟩⟩⟩⟩⟩⟩⟩⟩⟩⟩⟩⟩⟩⟩⟩⟩⟩⟩⟩⟩⟩⟩⟩⟩⟩⟩⟩⟩⟩⟩⟩⟩⟩⟩⟩⟩⟩⟩⟩⟩⟩⟩⟩⟩⟩⟩⟩⟩⟩⟩⟩⟩⟩⟩⟩⟩⟩⟩⟩⟩⟩⟩⟩⟩⟩⟩⟩⟩⟩⟩⟩⟩⟩⟩⟩⟩⟩⟩⟩⟩⟩⟩⟩⟩⟩⟩⟩⟩⟩⟩⟩⟩⟩⟩⟩⟩⟩⟩⟩⟩⟩⟩⟩
def mk_CN : List String := [RX0, RX1, RX2, RX3, RX4, RX5, RX6, RX7, RX8]
def mk_cn (i : Nat) : String := (mj_nth mk_CN i).getD ""
theorem mk_CNi : ∀ c ∈ mk_CN, Cond.initialized c ∈ mk_tb := List.forall_mem_cons.mpr ⟨mk_t1 6 rfl rfl, List.forall_mem_cons.mpr ⟨mk_t1 4 rfl rfl, List.forall_mem_cons.mpr ⟨mk_t1 5 rfl rfl, List.forall_mem_cons.mpr ⟨mk_t1 2 rfl rfl, List.forall_mem_cons.mpr ⟨mk_t1 8 rfl rfl, List.forall_mem_cons.mpr ⟨mk_t1 3 rfl rfl, List.forall_mem_cons.mpr ⟨mk_t1 7 rfl rfl, List.forall_mem_cons.mpr ⟨mk_t1 1 rfl rfl, List.forall_mem_cons.mpr ⟨mk_t1 13 rfl rfl, fun _ h => absurd h List.not_mem_nil⟩⟩⟩⟩⟩⟩⟩⟩⟩
-- sites: {'max': [(0, 32), (1, 150)], 'copy': [(7, 326)], 'charAt': [(5, 98)], 'static': [(0, 24)]}
/-- what class ci's slot k is: (declaring class, name, descriptor, final) -/
def mk_ft (ci k : Nat) : String × String × String × Bool := match vwCl[ci]? with
  | some (_, T, _) => T k
  | none => ("", "", "", true)
/-- own, index, class, slot, 1 for a boolean -/
def mk_FL : List (Nat × Nat × Nat × Nat × Nat) := [(7, 10, 7, 0, 0), (7, 96, 3, 0, 0), (7, 99, 3, 1, 0), (7, 103, 3, 2, 0), (7, 106, 3, 3, 0), (7, 128, 3, 6, 0), (7, 131, 3, 7, 0), (7, 134, 3, 8, 0), (7, 137, 3, 4, 0), (7, 35, 7, 5, 0), (7, 139, 3, 9, 0), (7, 42, 7, 6, 0), (7, 142, 5, 1, 0), (7, 31, 7, 4, 0), (7, 25, 7, 3, 0), (7, 161, 3, 5, 0), (7, 16, 7, 1, 0), (7, 19, 7, 2, 1), (7, 167, 0, 0, 0), (7, 170, 0, 1, 0), (7, 173, 0, 2, 0), (7, 176, 0, 3, 0), (7, 55, 7, 8, 0), (7, 200, 1, 1, 0), (7, 203, 1, 2, 0), (7, 206, 1, 3, 0), (7, 209, 1, 4, 0), (7, 215, 1, 5, 0), (7, 221, 1, 6, 0), (7, 62, 7, 9, 0), (7, 234, 1, 0, 0), (7, 261, 3, 10, 1), (7, 264, 3, 11, 1), (7, 273, 2, 0, 0), (7, 48, 7, 7, 0), (7, 319, 4, 1, 0), (7, 320, 4, 0, 0), (7, 323, 4, 2, 0), (7, 370, 2, 1, 0), (7, 66, 7, 10, 0), (8, 112, 8, 0, 0), (8, 119, 8, 5, 0), (8, 7, 8, 1, 0), (8, 134, 8, 2, 0), (8, 13, 8, 3, 0), (8, 17, 8, 4, 0), (8, 137, 8, 15, 0), (8, 140, 8, 16, 0), (8, 105, 8, 12, 0), (8, 35, 8, 11, 0), (8, 62, 8, 34, 0), (8, 146, 8, 30, 0), (8, 149, 8, 31, 0), (8, 152, 8, 32, 0), (8, 155, 8, 33, 0), (8, 38, 8, 13, 0), (8, 162, 8, 38, 0), (8, 165, 8, 36, 0), (8, 65, 8, 35, 0), (8, 171, 8, 37, 0), (8, 41, 8, 14, 0), (8, 68, 8, 39, 0), (8, 71, 8, 40, 0), (8, 26, 8, 8, 0), (8, 29, 8, 9, 0), (8, 23, 8, 7, 0), (8, 20, 8, 6, 0), (8, 32, 8, 10, 0), (8, 218, 8, 17, 1), (8, 222, 8, 22, 0), (8, 232, 8, 41, 1), (8, 74, 8, 42, 0), (8, 77, 8, 43, 0), (8, 89, 8, 47, 0), (8, 80, 8, 44, 0), (8, 83, 8, 45, 0), (8, 86, 8, 46, 0), (8, 92, 8, 48, 0), (8, 95, 8, 49, 0), (8, 250, 8, 50, 1), (8, 293, 8, 51, 0), (8, 98, 8, 52, 0), (8, 50, 8, 26, 0), (8, 53, 8, 27, 0), (8, 56, 8, 28, 0), (8, 102, 8, 53, 0), (8, 334, 8, 18, 0), (8, 337, 8, 19, 0), (8, 340, 8, 20, 0), (8, 343, 8, 21, 0), (8, 346, 8, 23, 0), (8, 44, 8, 24, 0), (8, 47, 8, 25, 0), (0, 9, 0, 0, 0), (0, 15, 0, 1, 0), (0, 18, 0, 2, 0), (0, 21, 0, 3, 0), (1, 46, 1, 10, 0), (1, 12, 1, 0, 0), (1, 61, 3, 0, 0), (1, 40, 1, 8, 0), (1, 68, 3, 1, 0), (1, 34, 1, 6, 0), (1, 79, 3, 4, 0), (1, 18, 1, 1, 0), (1, 22, 1, 2, 0), (1, 25, 1, 3, 0), (1, 28, 1, 4, 0), (1, 31, 1, 5, 0), (1, 37, 1, 7, 0), (1, 82, 3, 11, 1), (1, 92, 0, 1, 0), (1, 99, 3, 5, 0), (1, 50, 1, 11, 0), (1, 106, 3, 6, 0), (1, 113, 0, 2, 0), (1, 43, 1, 9, 0), (1, 119, 3, 8, 0), (1, 134, 3, 7, 0), (1, 137, 3, 2, 0), (1, 140, 3, 10, 1), (2, 9, 2, 0, 0), (2, 16, 2, 1, 0), (3, 9, 3, 0, 0), (3, 15, 3, 1, 0), (3, 19, 3, 2, 0), (3, 22, 3, 3, 0), (3, 25, 3, 4, 0), (3, 28, 3, 5, 0), (3, 31, 3, 6, 0), (3, 34, 3, 7, 0), (3, 37, 3, 8, 0), (3, 40, 3, 9, 0), (3, 43, 3, 10, 1), (3, 47, 3, 11, 1), (4, 9, 4, 0, 0), (4, 15, 4, 1, 0), (4, 18, 4, 2, 0), (5, 15, 5, 1, 0), (5, 9, 5, 0, 0), (5, 27, 5, 4, 0), (5, 30, 5, 5, 0), (5, 33, 5, 6, 0), (5, 24, 5, 3, 0), (5, 36, 5, 7, 0), (5, 19, 5, 2, 0), (5, 39, 5, 8, 0), (6, 9, 6, 0, 0), (6, 24, 5, 2, 0), (6, 15, 6, 1, 0), (6, 27, 5, 3, 0), (6, 21, 6, 3, 0), (6, 28, 0, 2, 0), (6, 34, 0, 3, 0), (6, 37, 0, 1, 0), (6, 18, 6, 2, 0)]
set_option maxRecDepth 100000 in
theorem mk_FLw : ∀ q ∈ mk_FL, Cond.fieldLink (mk_cn q.1) q.2.1 (mk_ft q.2.2.1 q.2.2.2.1).1 (mk_ft q.2.2.1 q.2.2.2.1).2.1 (mk_ft q.2.2.1 q.2.2.2.1).2.2.1 ∈ mk_tb := List.forall_mem_cons.mpr ⟨mk_t2 154 rfl rfl, List.forall_mem_cons.mpr ⟨mk_t1 31 rfl rfl, List.forall_mem_cons.mpr ⟨mk_t1 34 rfl rfl, List.forall_mem_cons.mpr ⟨mk_t1 37 rfl rfl, List.forall_mem_cons.mpr ⟨mk_t1 40 rfl rfl, List.forall_mem_cons.mpr ⟨mk_t1 49 rfl rfl, List.forall_mem_cons.mpr ⟨mk_t1 51 rfl rfl, List.forall_mem_cons.mpr ⟨mk_t1 54 rfl rfl, List.forall_mem_cons.mpr ⟨mk_t1 43 rfl rfl, List.forall_mem_cons.mpr ⟨mk_t2 159 rfl rfl, List.forall_mem_cons.mpr ⟨mk_t1 57 rfl rfl, List.forall_mem_cons.mpr ⟨mk_t2 160 rfl rfl, List.forall_mem_cons.mpr ⟨mk_t1 102 rfl rfl, List.forall_mem_cons.mpr ⟨mk_t2 158 rfl rfl, List.forall_mem_cons.mpr ⟨mk_t2 157 rfl rfl, List.forall_mem_cons.mpr ⟨mk_t1 46 rfl rfl, List.forall_mem_cons.mpr ⟨mk_t2 155 rfl rfl, List.forall_mem_cons.mpr ⟨mk_t2 156 rfl rfl, List.forall_mem_cons.mpr ⟨mk_t1 207 rfl rfl, List.forall_mem_cons.mpr ⟨mk_t1 211 rfl rfl, List.forall_mem_cons.mpr ⟨mk_t1 215 rfl rfl, List.forall_mem_cons.mpr ⟨mk_t1 218 rfl rfl, List.forall_mem_cons.mpr ⟨mk_t2 162 rfl rfl, List.forall_mem_cons.mpr ⟨mk_t1 144 rfl rfl, List.forall_mem_cons.mpr ⟨mk_t1 146 rfl rfl, List.forall_mem_cons.mpr ⟨mk_t1 148 rfl rfl, List.forall_mem_cons.mpr ⟨mk_t1 150 rfl rfl, List.forall_mem_cons.mpr ⟨mk_t1 152 rfl rfl, List.forall_mem_cons.mpr ⟨mk_t1 154 rfl rfl, List.forall_mem_cons.mpr ⟨mk_t2 163 rfl rfl, List.forall_mem_cons.mpr ⟨mk_t1 142 rfl rfl, List.forall_mem_cons.mpr ⟨mk_t1 60 rfl rfl, List.forall_mem_cons.mpr ⟨mk_t1 63 rfl rfl, List.forall_mem_cons.mpr ⟨mk_t1 193 rfl rfl, List.forall_mem_cons.mpr ⟨mk_t2 161 rfl rfl, List.forall_mem_cons.mpr ⟨mk_t2 15 rfl rfl, List.forall_mem_cons.mpr ⟨mk_t2 13 rfl rfl, List.forall_mem_cons.mpr ⟨mk_t2 17 rfl rfl, List.forall_mem_cons.mpr ⟨mk_t1 195 rfl rfl, List.forall_mem_cons.mpr ⟨mk_t2 164 rfl rfl, List.forall_mem_cons.mpr ⟨mk_t4 208 rfl rfl, List.forall_mem_cons.mpr ⟨mk_t4 213 rfl rfl, List.forall_mem_cons.mpr ⟨mk_t4 209 rfl rfl, List.forall_mem_cons.mpr ⟨mk_t4 210 rfl rfl, List.forall_mem_cons.mpr ⟨mk_t4 211 rfl rfl, List.forall_mem_cons.mpr ⟨mk_t4 212 rfl rfl, List.forall_mem_cons.mpr ⟨mk_t4 223 rfl rfl, List.forall_mem_cons.mpr ⟨mk_t4 224 rfl rfl, List.forall_mem_cons.mpr ⟨mk_t4 220 rfl rfl, List.forall_mem_cons.mpr ⟨mk_t4 219 rfl rfl, List.forall_mem_cons.mpr ⟨mk_t5 2 rfl rfl, List.forall_mem_cons.mpr ⟨mk_t4 238 rfl rfl, List.forall_mem_cons.mpr ⟨mk_t4 239 rfl rfl, List.forall_mem_cons.mpr ⟨mk_t5 0 rfl rfl, List.forall_mem_cons.mpr ⟨mk_t5 1 rfl rfl, List.forall_mem_cons.mpr ⟨mk_t4 221 rfl rfl, List.forall_mem_cons.mpr ⟨mk_t5 6 rfl rfl, List.forall_mem_cons.mpr ⟨mk_t5 4 rfl rfl, List.forall_mem_cons.mpr ⟨mk_t5 3 rfl rfl, List.forall_mem_cons.mpr ⟨mk_t5 5 rfl rfl, List.forall_mem_cons.mpr ⟨mk_t4 222 rfl rfl, List.forall_mem_cons.mpr ⟨mk_t5 7 rfl rfl, List.forall_mem_cons.mpr ⟨mk_t5 8 rfl rfl, List.forall_mem_cons.mpr ⟨mk_t4 216 rfl rfl, List.forall_mem_cons.mpr ⟨mk_t4 217 rfl rfl, List.forall_mem_cons.mpr ⟨mk_t4 215 rfl rfl, List.forall_mem_cons.mpr ⟨mk_t4 214 rfl rfl, List.forall_mem_cons.mpr ⟨mk_t4 218 rfl rfl, List.forall_mem_cons.mpr ⟨mk_t4 225 rfl rfl, List.forall_mem_cons.mpr ⟨mk_t4 230 rfl rfl, List.forall_mem_cons.mpr ⟨mk_t5 9 rfl rfl, List.forall_mem_cons.mpr ⟨mk_t5 10 rfl rfl, List.forall_mem_cons.mpr ⟨mk_t5 11 rfl rfl, List.forall_mem_cons.mpr ⟨mk_t5 15 rfl rfl, List.forall_mem_cons.mpr ⟨mk_t5 12 rfl rfl, List.forall_mem_cons.mpr ⟨mk_t5 13 rfl rfl, List.forall_mem_cons.mpr ⟨mk_t5 14 rfl rfl, List.forall_mem_cons.mpr ⟨mk_t5 16 rfl rfl, List.forall_mem_cons.mpr ⟨mk_t5 17 rfl rfl, List.forall_mem_cons.mpr ⟨mk_t5 18 rfl rfl, List.forall_mem_cons.mpr ⟨mk_t5 19 rfl rfl, List.forall_mem_cons.mpr ⟨mk_t5 20 rfl rfl, List.forall_mem_cons.mpr ⟨mk_t4 234 rfl rfl, List.forall_mem_cons.mpr ⟨mk_t4 235 rfl rfl, List.forall_mem_cons.mpr ⟨mk_t4 236 rfl rfl, List.forall_mem_cons.mpr ⟨mk_t5 21 rfl rfl, List.forall_mem_cons.mpr ⟨mk_t4 226 rfl rfl, List.forall_mem_cons.mpr ⟨mk_t4 227 rfl rfl, List.forall_mem_cons.mpr ⟨mk_t4 228 rfl rfl, List.forall_mem_cons.mpr ⟨mk_t4 229 rfl rfl, List.forall_mem_cons.mpr ⟨mk_t4 231 rfl rfl, List.forall_mem_cons.mpr ⟨mk_t4 232 rfl rfl, List.forall_mem_cons.mpr ⟨mk_t4 233 rfl rfl, List.forall_mem_cons.mpr ⟨mk_t1 206 rfl rfl, List.forall_mem_cons.mpr ⟨mk_t1 208 rfl rfl, List.forall_mem_cons.mpr ⟨mk_t1 212 rfl rfl, List.forall_mem_cons.mpr ⟨mk_t1 216 rfl rfl, List.forall_mem_cons.mpr ⟨mk_t1 158 rfl rfl, List.forall_mem_cons.mpr ⟨mk_t1 141 rfl rfl, List.forall_mem_cons.mpr ⟨mk_t1 32 rfl rfl, List.forall_mem_cons.mpr ⟨mk_t1 156 rfl rfl, List.forall_mem_cons.mpr ⟨mk_t1 35 rfl rfl, List.forall_mem_cons.mpr ⟨mk_t1 153 rfl rfl, List.forall_mem_cons.mpr ⟨mk_t1 42 rfl rfl, List.forall_mem_cons.mpr ⟨mk_t1 143 rfl rfl, List.forall_mem_cons.mpr ⟨mk_t1 145 rfl rfl, List.forall_mem_cons.mpr ⟨mk_t1 147 rfl rfl, List.forall_mem_cons.mpr ⟨mk_t1 149 rfl rfl, List.forall_mem_cons.mpr ⟨mk_t1 151 rfl rfl, List.forall_mem_cons.mpr ⟨mk_t1 155 rfl rfl, List.forall_mem_cons.mpr ⟨mk_t1 62 rfl rfl, List.forall_mem_cons.mpr ⟨mk_t1 210 rfl rfl, List.forall_mem_cons.mpr ⟨mk_t1 45 rfl rfl, List.forall_mem_cons.mpr ⟨mk_t1 159 rfl rfl, List.forall_mem_cons.mpr ⟨mk_t1 48 rfl rfl, List.forall_mem_cons.mpr ⟨mk_t1 214 rfl rfl, List.forall_mem_cons.mpr ⟨mk_t1 157 rfl rfl, List.forall_mem_cons.mpr ⟨mk_t1 55 rfl rfl, List.forall_mem_cons.mpr ⟨mk_t1 52 rfl rfl, List.forall_mem_cons.mpr ⟨mk_t1 38 rfl rfl, List.forall_mem_cons.mpr ⟨mk_t1 59 rfl rfl, List.forall_mem_cons.mpr ⟨mk_t1 192 rfl rfl, List.forall_mem_cons.mpr ⟨mk_t1 194 rfl rfl, List.forall_mem_cons.mpr ⟨mk_t1 30 rfl rfl, List.forall_mem_cons.mpr ⟨mk_t1 33 rfl rfl, List.forall_mem_cons.mpr ⟨mk_t1 36 rfl rfl, List.forall_mem_cons.mpr ⟨mk_t1 39 rfl rfl, List.forall_mem_cons.mpr ⟨mk_t1 41 rfl rfl, List.forall_mem_cons.mpr ⟨mk_t1 44 rfl rfl, List.forall_mem_cons.mpr ⟨mk_t1 47 rfl rfl, List.forall_mem_cons.mpr ⟨mk_t1 50 rfl rfl, List.forall_mem_cons.mpr ⟨mk_t1 53 rfl rfl, List.forall_mem_cons.mpr ⟨mk_t1 56 rfl rfl, List.forall_mem_cons.mpr ⟨mk_t1 58 rfl rfl, List.forall_mem_cons.mpr ⟨mk_t1 61 rfl rfl, List.forall_mem_cons.mpr ⟨mk_t2 12 rfl rfl, List.forall_mem_cons.mpr ⟨mk_t2 14 rfl rfl, List.forall_mem_cons.mpr ⟨mk_t2 16 rfl rfl, List.forall_mem_cons.mpr ⟨mk_t1 101 rfl rfl, List.forall_mem_cons.mpr ⟨mk_t1 100 rfl rfl, List.forall_mem_cons.mpr ⟨mk_t1 107 rfl rfl, List.forall_mem_cons.mpr ⟨mk_t1 108 rfl rfl, List.forall_mem_cons.mpr ⟨mk_t1 109 rfl rfl, List.forall_mem_cons.mpr ⟨mk_t1 105 rfl rfl, List.forall_mem_cons.mpr ⟨mk_t1 110 rfl rfl, List.forall_mem_cons.mpr ⟨mk_t1 103 rfl rfl, List.forall_mem_cons.mpr ⟨mk_t1 111 rfl rfl, List.forall_mem_cons.mpr ⟨mk_t1 234 rfl rfl, List.forall_mem_cons.mpr ⟨mk_t1 104 rfl rfl, List.forall_mem_cons.mpr ⟨mk_t1 235 rfl rfl, List.forall_mem_cons.mpr ⟨mk_t1 106 rfl rfl, List.forall_mem_cons.mpr ⟨mk_t1 237 rfl rfl, List.forall_mem_cons.mpr ⟨mk_t1 213 rfl rfl, List.forall_mem_cons.mpr ⟨mk_t1 217 rfl rfl, List.forall_mem_cons.mpr ⟨mk_t1 209 rfl rfl, List.forall_mem_cons.mpr ⟨mk_t1 236 rfl rfl, fun _ h => absurd h List.not_mem_nil⟩⟩⟩⟩⟩⟩⟩⟩⟩⟩⟩⟩⟩⟩⟩⟩⟩⟩⟩⟩⟩⟩⟩⟩⟩⟩⟩⟩⟩⟩⟩⟩⟩⟩⟩⟩⟩⟩⟩⟩⟩⟩⟩⟩⟩⟩⟩⟩⟩⟩⟩⟩⟩⟩⟩⟩⟩⟩⟩⟩⟩⟩⟩⟩⟩⟩⟩⟩⟩⟩⟩⟩⟩⟩⟩⟩⟩⟩⟩⟩⟩⟩⟩⟩⟩⟩⟩⟩⟩⟩⟩⟩⟩⟩⟩⟩⟩⟩⟩⟩⟩⟩⟩⟩⟩⟩⟩⟩⟩⟩⟩⟩⟩⟩⟩⟩⟩⟩⟩⟩⟩⟩⟩⟩⟩⟩⟩⟩⟩⟩⟩⟩⟩⟩⟩⟩⟩⟩⟩⟩⟩⟩⟩⟩⟩⟩⟩⟩⟩⟩⟩⟩⟩⟩⟩⟩
/-- own, index, place in mk_CS, 0 an int, 2 a long -/
def mk_KL : List (Nat × Nat × Nat × Nat) := [(7, 276, 0, 2), (7, 288, 1, 2), (7, 305, 2, 0), (7, 343, 3, 2), (7, 345, 4, 2), (7, 347, 5, 2), (7, 373, 6, 2), (7, 375, 7, 2), (8, 187, 8, 0), (8, 299, 6, 2), (8, 301, 7, 2), (8, 307, 0, 2), (8, 309, 1, 2), (8, 317, 3, 2), (8, 319, 4, 2), (8, 321, 5, 2), (8, 323, 2, 0), (2, 15, 4, 0)]
def mk_kw (q : Nat × Nat × Nat × Nat) : Cond := match q.2.2.2 with
  | 0 => .constant (mk_cn q.1) q.2.1 (Int32.ofInt ((mj_nth mk_CS q.2.2.1).getD 0))
  | _ => .constantLong (mk_cn q.1) q.2.1 (Int64.ofInt ((mj_nth mk_CS q.2.2.1).getD 0))
theorem mk_KLw : ∀ q ∈ mk_KL, mk_kw q ∈ mk_tb := List.forall_mem_cons.mpr ⟨mk_t4 39 rfl rfl, List.forall_mem_cons.mpr ⟨mk_t4 58 rfl rfl, List.forall_mem_cons.mpr ⟨mk_t4 102 rfl rfl, List.forall_mem_cons.mpr ⟨mk_t4 107 rfl rfl, List.forall_mem_cons.mpr ⟨mk_t4 108 rfl rfl, List.forall_mem_cons.mpr ⟨mk_t4 109 rfl rfl, List.forall_mem_cons.mpr ⟨mk_t4 44 rfl rfl, List.forall_mem_cons.mpr ⟨mk_t4 49 rfl rfl, List.forall_mem_cons.mpr ⟨mk_t4 180 rfl rfl, List.forall_mem_cons.mpr ⟨mk_t6 125 rfl rfl, List.forall_mem_cons.mpr ⟨mk_t6 126 rfl rfl, List.forall_mem_cons.mpr ⟨mk_t6 127 rfl rfl, List.forall_mem_cons.mpr ⟨mk_t6 132 rfl rfl, List.forall_mem_cons.mpr ⟨mk_t6 166 rfl rfl, List.forall_mem_cons.mpr ⟨mk_t6 167 rfl rfl, List.forall_mem_cons.mpr ⟨mk_t6 168 rfl rfl, List.forall_mem_cons.mpr ⟨mk_t6 161 rfl rfl, List.forall_mem_cons.mpr ⟨mk_t1 191 rfl rfl, fun _ h => absurd h List.not_mem_nil⟩⟩⟩⟩⟩⟩⟩⟩⟩⟩⟩⟩⟩⟩⟩⟩⟩⟩
/-- own, index, method, kind of call: 0 of an object, 1 static, 2 static of a nest mate -/
def mk_CL : List (Nat × Nat × Nat × Nat) := [(7, 92, 44, 1), (7, 109, 49, 0), (7, 113, 51, 1), (7, 117, 52, 0), (7, 121, 53, 1), (7, 124, 54, 0), (7, 145, 46, 1), (7, 85, 197, 0), (7, 148, 198, 0), (7, 151, 214, 0), (7, 155, 47, 1), (7, 158, 163, 0), (7, 164, 50, 0), (7, 179, 167, 0), (7, 182, 215, 0), (7, 186, 169, 0), (7, 190, 168, 0), (7, 193, 64, 0), (7, 197, 58, 0), (7, 212, 178, 0), (7, 218, 187, 0), (7, 224, 185, 0), (7, 227, 188, 0), (7, 230, 189, 0), (7, 237, 57, 0), (7, 240, 190, 0), (7, 243, 60, 0), (7, 246, 61, 1), (7, 249, 56, 0), (7, 252, 62, 0), (7, 255, 186, 0), (7, 258, 63, 0), (7, 267, 65, 0), (7, 270, 66, 0), (7, 278, 68, 0), (7, 281, 69, 0), (7, 284, 70, 0), (7, 290, 55, 0), (7, 293, 67, 0), (7, 297, 48, 1), (7, 300, 195, 0), (7, 302, 196, 0), (7, 306, 59, 0), (7, 309, 71, 1), (7, 312, 191, 0), (7, 315, 194, 0), (7, 332, 8, 0), (7, 336, 164, 0), (7, 339, 170, 0), (7, 349, 45, 1), (7, 352, 192, 0), (7, 355, 180, 0), (7, 358, 182, 0), (7, 361, 165, 0), (7, 364, 166, 0), (7, 367, 179, 0), (8, 115, 72, 1), (8, 122, 76, 1), (8, 126, 74, 0), (8, 130, 81, 0), (8, 143, 82, 1), (8, 158, 84, 0), (8, 168, 86, 1), (8, 174, 87, 0), (8, 178, 89, 0), (8, 181, 88, 0), (8, 184, 85, 0), (8, 188, 90, 0), (8, 191, 92, 0), (8, 194, 91, 0), (8, 197, 93, 0), (8, 201, 95, 1), (8, 205, 96, 0), (8, 208, 73, 1), (8, 211, 100, 0), (8, 215, 75, 0), (8, 225, 103, 0), (8, 228, 98, 0), (8, 235, 105, 0), (8, 238, 106, 0), (8, 241, 108, 0), (8, 244, 109, 0), (8, 247, 110, 0), (8, 253, 111, 0), (8, 256, 112, 0), (8, 259, 113, 0), (8, 262, 115, 0), (8, 265, 118, 0), (8, 268, 116, 0), (8, 271, 117, 0), (8, 274, 119, 0), (8, 277, 122, 0), (8, 280, 125, 0), (8, 283, 126, 0), (8, 287, 131, 0), (8, 290, 135, 0), (8, 296, 136, 0), (8, 303, 141, 0), (8, 311, 144, 0), (8, 314, 145, 0), (8, 324, 150, 0), (8, 327, 151, 0), (8, 330, 153, 1), (8, 349, 99, 0), (8, 352, 161, 1), (0, 28, 45, 2), (1, 53, 171, 0), (1, 57, 174, 0), (1, 64, 193, 0), (1, 71, 176, 0), (1, 75, 177, 0), (1, 86, 167, 0), (1, 95, 172, 0), (1, 102, 173, 0), (1, 109, 165, 0), (1, 116, 166, 0), (1, 122, 175, 0), (1, 127, 215, 0), (1, 131, 168, 0), (1, 143, 169, 0), (1, 147, 178, 0), (1, 156, 181, 0), (1, 159, 180, 0), (1, 162, 183, 0), (1, 165, 182, 0), (1, 168, 184, 0), (3, 50, 44, 2), (5, 42, 208, 0), (5, 45, 199, 0), (5, 49, 201, 0), (5, 52, 202, 0), (5, 55, 200, 0), (5, 59, 203, 0), (5, 62, 207, 0), (5, 66, 204, 0), (5, 69, 205, 0), (5, 72, 206, 0), (5, 75, 44, 2), (5, 79, 209, 0), (5, 83, 212, 0), (5, 87, 211, 0), (5, 90, 210, 1), (5, 93, 213, 0), (6, 40, 216, 1)]
def mk_mi (y : Nat) : mk_T7 := match mj_nth mk_MI y with
  | some q => q
  | none => (⟨"", "", ""⟩, ⟨#[]⟩, none, 0, 0, 0, true)
def mk_cw (q : Nat × Nat × Nat × Nat) : List Cond := match q.2.2.2 with
  | 0 => [.methodLink (mk_cn q.1) q.2.1 (mk_mi q.2.2.1).1, .instanceMethod (mk_mi q.2.2.1).1, .selects (mk_mi q.2.2.1).1.cls (mk_mi q.2.2.1).1 (mk_mi q.2.2.1).1]
  | 1 => [.methodLink (mk_cn q.1) q.2.1 (mk_mi q.2.2.1).1, .static (mk_mi q.2.2.1).1]
  | _ => [.static (mk_mi q.2.2.1).1]
theorem mk_cl0 : ∀ w ∈ mk_cw (7, 92, 44, 1), w ∈ mk_tb := List.forall_mem_cons.mpr ⟨mk_t2 193 rfl rfl, List.forall_mem_cons.mpr ⟨mk_t2 91 rfl rfl, fun _ h => absurd h List.not_mem_nil⟩⟩
theorem mk_cl1 : ∀ w ∈ mk_cw (7, 109, 49, 0), w ∈ mk_tb := List.forall_mem_cons.mpr ⟨mk_t2 198 rfl rfl, List.forall_mem_cons.mpr ⟨mk_t2 200 rfl rfl, List.forall_mem_cons.mpr ⟨mk_tp 14 rfl, fun _ h => absurd h List.not_mem_nil⟩⟩⟩
theorem mk_cl2 : ∀ w ∈ mk_cw (7, 113, 51, 1), w ∈ mk_tb := List.forall_mem_cons.mpr ⟨mk_t2 202 rfl rfl, List.forall_mem_cons.mpr ⟨mk_t2 203 rfl rfl, fun _ h => absurd h List.not_mem_nil⟩⟩
theorem mk_cl3 : ∀ w ∈ mk_cw (7, 117, 52, 0), w ∈ mk_tb := List.forall_mem_cons.mpr ⟨mk_t2 205 rfl rfl, List.forall_mem_cons.mpr ⟨mk_t2 207 rfl rfl, List.forall_mem_cons.mpr ⟨mk_tp 15 rfl, fun _ h => absurd h List.not_mem_nil⟩⟩⟩
theorem mk_cl4 : ∀ w ∈ mk_cw (7, 121, 53, 1), w ∈ mk_tb := List.forall_mem_cons.mpr ⟨mk_t2 217 rfl rfl, List.forall_mem_cons.mpr ⟨mk_t2 218 rfl rfl, fun _ h => absurd h List.not_mem_nil⟩⟩
theorem mk_cl5 : ∀ w ∈ mk_cw (7, 124, 54, 0), w ∈ mk_tb := List.forall_mem_cons.mpr ⟨mk_t2 220 rfl rfl, List.forall_mem_cons.mpr ⟨mk_t2 222 rfl rfl, List.forall_mem_cons.mpr ⟨mk_tp 16 rfl, fun _ h => absurd h List.not_mem_nil⟩⟩⟩
theorem mk_cl6 : ∀ w ∈ mk_cw (7, 145, 46, 1), w ∈ mk_tb := List.forall_mem_cons.mpr ⟨mk_t2 232 rfl rfl, List.forall_mem_cons.mpr ⟨mk_t2 233 rfl rfl, fun _ h => absurd h List.not_mem_nil⟩⟩
theorem mk_cl7 : ∀ w ∈ mk_cw (7, 85, 197, 0), w ∈ mk_tb := List.forall_mem_cons.mpr ⟨mk_t2 74 rfl rfl, List.forall_mem_cons.mpr ⟨mk_t2 75 rfl rfl, List.forall_mem_cons.mpr ⟨mk_t2 76 rfl rfl, fun _ h => absurd h List.not_mem_nil⟩⟩⟩
theorem mk_cl8 : ∀ w ∈ mk_cw (7, 148, 198, 0), w ∈ mk_tb := List.forall_mem_cons.mpr ⟨mk_t2 82 rfl rfl, List.forall_mem_cons.mpr ⟨mk_t2 83 rfl rfl, List.forall_mem_cons.mpr ⟨mk_t2 84 rfl rfl, fun _ h => absurd h List.not_mem_nil⟩⟩⟩
theorem mk_cl9 : ∀ w ∈ mk_cw (7, 151, 214, 0), w ∈ mk_tb := List.forall_mem_cons.mpr ⟨mk_t2 150 rfl rfl, List.forall_mem_cons.mpr ⟨mk_t2 151 rfl rfl, List.forall_mem_cons.mpr ⟨mk_t2 152 rfl rfl, fun _ h => absurd h List.not_mem_nil⟩⟩⟩
theorem mk_cl10 : ∀ w ∈ mk_cw (7, 155, 47, 1), w ∈ mk_tb := List.forall_mem_cons.mpr ⟨mk_t3 4 rfl rfl, List.forall_mem_cons.mpr ⟨mk_t3 5 rfl rfl, fun _ h => absurd h List.not_mem_nil⟩⟩
theorem mk_cl11 : ∀ w ∈ mk_cw (7, 158, 163, 0), w ∈ mk_tb := List.forall_mem_cons.mpr ⟨mk_t3 7 rfl rfl, List.forall_mem_cons.mpr ⟨mk_t3 8 rfl rfl, List.forall_mem_cons.mpr ⟨mk_t3 9 rfl rfl, fun _ h => absurd h List.not_mem_nil⟩⟩⟩
theorem mk_cl12 : ∀ w ∈ mk_cw (7, 164, 50, 0), w ∈ mk_tb := List.forall_mem_cons.mpr ⟨mk_t3 15 rfl rfl, List.forall_mem_cons.mpr ⟨mk_t3 17 rfl rfl, List.forall_mem_cons.mpr ⟨mk_tp 17 rfl, fun _ h => absurd h List.not_mem_nil⟩⟩⟩
theorem mk_cl13 : ∀ w ∈ mk_cw (7, 179, 167, 0), w ∈ mk_tb := List.forall_mem_cons.mpr ⟨mk_t3 27 rfl rfl, List.forall_mem_cons.mpr ⟨mk_t3 28 rfl rfl, List.forall_mem_cons.mpr ⟨mk_t3 29 rfl rfl, fun _ h => absurd h List.not_mem_nil⟩⟩⟩
theorem mk_cl14 : ∀ w ∈ mk_cw (7, 182, 215, 0), w ∈ mk_tb := List.forall_mem_cons.mpr ⟨mk_t3 35 rfl rfl, List.forall_mem_cons.mpr ⟨mk_t3 36 rfl rfl, List.forall_mem_cons.mpr ⟨mk_t3 37 rfl rfl, fun _ h => absurd h List.not_mem_nil⟩⟩⟩
theorem mk_cl15 : ∀ w ∈ mk_cw (7, 186, 169, 0), w ∈ mk_tb := List.forall_mem_cons.mpr ⟨mk_t3 42 rfl rfl, List.forall_mem_cons.mpr ⟨mk_t3 43 rfl rfl, List.forall_mem_cons.mpr ⟨mk_t3 44 rfl rfl, fun _ h => absurd h List.not_mem_nil⟩⟩⟩
theorem mk_cl16 : ∀ w ∈ mk_cw (7, 190, 168, 0), w ∈ mk_tb := List.forall_mem_cons.mpr ⟨mk_t3 49 rfl rfl, List.forall_mem_cons.mpr ⟨mk_t3 50 rfl rfl, List.forall_mem_cons.mpr ⟨mk_t3 51 rfl rfl, fun _ h => absurd h List.not_mem_nil⟩⟩⟩
theorem mk_cl17 : ∀ w ∈ mk_cw (7, 193, 64, 0), w ∈ mk_tb := List.forall_mem_cons.mpr ⟨mk_t3 56 rfl rfl, List.forall_mem_cons.mpr ⟨mk_t3 58 rfl rfl, List.forall_mem_cons.mpr ⟨mk_tp 18 rfl, fun _ h => absurd h List.not_mem_nil⟩⟩⟩
theorem mk_cl18 : ∀ w ∈ mk_cw (7, 197, 58, 0), w ∈ mk_tb := List.forall_mem_cons.mpr ⟨mk_t3 65 rfl rfl, List.forall_mem_cons.mpr ⟨mk_t3 67 rfl rfl, List.forall_mem_cons.mpr ⟨mk_tp 19 rfl, fun _ h => absurd h List.not_mem_nil⟩⟩⟩
theorem mk_cl19 : ∀ w ∈ mk_cw (7, 212, 178, 0), w ∈ mk_tb := List.forall_mem_cons.mpr ⟨mk_t3 130 rfl rfl, List.forall_mem_cons.mpr ⟨mk_t3 131 rfl rfl, List.forall_mem_cons.mpr ⟨mk_t3 132 rfl rfl, fun _ h => absurd h List.not_mem_nil⟩⟩⟩
theorem mk_cl20 : ∀ w ∈ mk_cw (7, 218, 187, 0), w ∈ mk_tb := List.forall_mem_cons.mpr ⟨mk_t3 138 rfl rfl, List.forall_mem_cons.mpr ⟨mk_t3 139 rfl rfl, List.forall_mem_cons.mpr ⟨mk_t3 140 rfl rfl, fun _ h => absurd h List.not_mem_nil⟩⟩⟩
theorem mk_cl21 : ∀ w ∈ mk_cw (7, 224, 185, 0), w ∈ mk_tb := List.forall_mem_cons.mpr ⟨mk_t3 172 rfl rfl, List.forall_mem_cons.mpr ⟨mk_t3 173 rfl rfl, List.forall_mem_cons.mpr ⟨mk_t3 174 rfl rfl, fun _ h => absurd h List.not_mem_nil⟩⟩⟩
theorem mk_cl22 : ∀ w ∈ mk_cw (7, 227, 188, 0), w ∈ mk_tb := List.forall_mem_cons.mpr ⟨mk_t3 180 rfl rfl, List.forall_mem_cons.mpr ⟨mk_t3 181 rfl rfl, List.forall_mem_cons.mpr ⟨mk_t3 182 rfl rfl, fun _ h => absurd h List.not_mem_nil⟩⟩⟩
theorem mk_cl23 : ∀ w ∈ mk_cw (7, 230, 189, 0), w ∈ mk_tb := List.forall_mem_cons.mpr ⟨mk_t3 184 rfl rfl, List.forall_mem_cons.mpr ⟨mk_t3 185 rfl rfl, List.forall_mem_cons.mpr ⟨mk_t3 186 rfl rfl, fun _ h => absurd h List.not_mem_nil⟩⟩⟩
theorem mk_cl24 : ∀ w ∈ mk_cw (7, 237, 57, 0), w ∈ mk_tb := List.forall_mem_cons.mpr ⟨mk_t3 77 rfl rfl, List.forall_mem_cons.mpr ⟨mk_t3 79 rfl rfl, List.forall_mem_cons.mpr ⟨mk_tp 21 rfl, fun _ h => absurd h List.not_mem_nil⟩⟩⟩
theorem mk_cl25 : ∀ w ∈ mk_cw (7, 240, 190, 0), w ∈ mk_tb := List.forall_mem_cons.mpr ⟨mk_t3 188 rfl rfl, List.forall_mem_cons.mpr ⟨mk_t3 189 rfl rfl, List.forall_mem_cons.mpr ⟨mk_t3 190 rfl rfl, fun _ h => absurd h List.not_mem_nil⟩⟩⟩
theorem mk_cl26 : ∀ w ∈ mk_cw (7, 243, 60, 0), w ∈ mk_tb := List.forall_mem_cons.mpr ⟨mk_t3 196 rfl rfl, List.forall_mem_cons.mpr ⟨mk_t3 198 rfl rfl, List.forall_mem_cons.mpr ⟨mk_tp 29 rfl, fun _ h => absurd h List.not_mem_nil⟩⟩⟩
theorem mk_cl27 : ∀ w ∈ mk_cw (7, 246, 61, 1), w ∈ mk_tb := List.forall_mem_cons.mpr ⟨mk_t3 206 rfl rfl, List.forall_mem_cons.mpr ⟨mk_t3 207 rfl rfl, fun _ h => absurd h List.not_mem_nil⟩⟩
theorem mk_cl28 : ∀ w ∈ mk_cw (7, 249, 56, 0), w ∈ mk_tb := List.forall_mem_cons.mpr ⟨mk_t3 69 rfl rfl, List.forall_mem_cons.mpr ⟨mk_t3 71 rfl rfl, List.forall_mem_cons.mpr ⟨mk_tp 20 rfl, fun _ h => absurd h List.not_mem_nil⟩⟩⟩
theorem mk_cl29 : ∀ w ∈ mk_cw (7, 252, 62, 0), w ∈ mk_tb := List.forall_mem_cons.mpr ⟨mk_t3 217 rfl rfl, List.forall_mem_cons.mpr ⟨mk_t3 219 rfl rfl, List.forall_mem_cons.mpr ⟨mk_tp 30 rfl, fun _ h => absurd h List.not_mem_nil⟩⟩⟩
theorem mk_cl30 : ∀ w ∈ mk_cw (7, 255, 186, 0), w ∈ mk_tb := List.forall_mem_cons.mpr ⟨mk_t3 221 rfl rfl, List.forall_mem_cons.mpr ⟨mk_t3 222 rfl rfl, List.forall_mem_cons.mpr ⟨mk_t3 223 rfl rfl, fun _ h => absurd h List.not_mem_nil⟩⟩⟩
theorem mk_cl31 : ∀ w ∈ mk_cw (7, 258, 63, 0), w ∈ mk_tb := List.forall_mem_cons.mpr ⟨mk_t3 233 rfl rfl, List.forall_mem_cons.mpr ⟨mk_t3 235 rfl rfl, List.forall_mem_cons.mpr ⟨mk_tp 31 rfl, fun _ h => absurd h List.not_mem_nil⟩⟩⟩
theorem mk_cl32 : ∀ w ∈ mk_cw (7, 267, 65, 0), w ∈ mk_tb := List.forall_mem_cons.mpr ⟨mk_t4 11 rfl rfl, List.forall_mem_cons.mpr ⟨mk_t4 13 rfl rfl, List.forall_mem_cons.mpr ⟨mk_tp 32 rfl, fun _ h => absurd h List.not_mem_nil⟩⟩⟩
theorem mk_cl33 : ∀ w ∈ mk_cw (7, 270, 66, 0), w ∈ mk_tb := List.forall_mem_cons.mpr ⟨mk_t4 23 rfl rfl, List.forall_mem_cons.mpr ⟨mk_t4 25 rfl rfl, List.forall_mem_cons.mpr ⟨mk_tp 33 rfl, fun _ h => absurd h List.not_mem_nil⟩⟩⟩
theorem mk_cl34 : ∀ w ∈ mk_cw (7, 278, 68, 0), w ∈ mk_tb := List.forall_mem_cons.mpr ⟨mk_t4 40 rfl rfl, List.forall_mem_cons.mpr ⟨mk_t4 42 rfl rfl, List.forall_mem_cons.mpr ⟨mk_tp 34 rfl, fun _ h => absurd h List.not_mem_nil⟩⟩⟩
theorem mk_cl35 : ∀ w ∈ mk_cw (7, 281, 69, 0), w ∈ mk_tb := List.forall_mem_cons.mpr ⟨mk_t4 45 rfl rfl, List.forall_mem_cons.mpr ⟨mk_t4 47 rfl rfl, List.forall_mem_cons.mpr ⟨mk_tp 35 rfl, fun _ h => absurd h List.not_mem_nil⟩⟩⟩
theorem mk_cl36 : ∀ w ∈ mk_cw (7, 284, 70, 0), w ∈ mk_tb := List.forall_mem_cons.mpr ⟨mk_t4 50 rfl rfl, List.forall_mem_cons.mpr ⟨mk_t4 52 rfl rfl, List.forall_mem_cons.mpr ⟨mk_tp 36 rfl, fun _ h => absurd h List.not_mem_nil⟩⟩⟩
theorem mk_cl37 : ∀ w ∈ mk_cw (7, 290, 55, 0), w ∈ mk_tb := List.forall_mem_cons.mpr ⟨mk_t4 63 rfl rfl, List.forall_mem_cons.mpr ⟨mk_t4 65 rfl rfl, List.forall_mem_cons.mpr ⟨mk_tp 37 rfl, fun _ h => absurd h List.not_mem_nil⟩⟩⟩
theorem mk_cl38 : ∀ w ∈ mk_cw (7, 293, 67, 0), w ∈ mk_tb := List.forall_mem_cons.mpr ⟨mk_t4 74 rfl rfl, List.forall_mem_cons.mpr ⟨mk_t4 76 rfl rfl, List.forall_mem_cons.mpr ⟨mk_tp 38 rfl, fun _ h => absurd h List.not_mem_nil⟩⟩⟩
theorem mk_cl39 : ∀ w ∈ mk_cw (7, 297, 48, 1), w ∈ mk_tb := List.forall_mem_cons.mpr ⟨mk_t4 67 rfl rfl, List.forall_mem_cons.mpr ⟨mk_t4 68 rfl rfl, fun _ h => absurd h List.not_mem_nil⟩⟩
theorem mk_cl40 : ∀ w ∈ mk_cw (7, 300, 195, 0), w ∈ mk_tb := List.forall_mem_cons.mpr ⟨mk_t4 90 rfl rfl, List.forall_mem_cons.mpr ⟨mk_t4 91 rfl rfl, List.forall_mem_cons.mpr ⟨mk_t4 92 rfl rfl, fun _ h => absurd h List.not_mem_nil⟩⟩⟩
theorem mk_cl41 : ∀ w ∈ mk_cw (7, 302, 196, 0), w ∈ mk_tb := List.forall_mem_cons.mpr ⟨mk_t4 94 rfl rfl, List.forall_mem_cons.mpr ⟨mk_t4 95 rfl rfl, List.forall_mem_cons.mpr ⟨mk_t4 96 rfl rfl, fun _ h => absurd h List.not_mem_nil⟩⟩⟩
theorem mk_cl42 : ∀ w ∈ mk_cw (7, 306, 59, 0), w ∈ mk_tb := List.forall_mem_cons.mpr ⟨mk_t4 103 rfl rfl, List.forall_mem_cons.mpr ⟨mk_t4 105 rfl rfl, List.forall_mem_cons.mpr ⟨mk_tp 39 rfl, fun _ h => absurd h List.not_mem_nil⟩⟩⟩
theorem mk_cl43 : ∀ w ∈ mk_cw (7, 309, 71, 1), w ∈ mk_tb := List.forall_mem_cons.mpr ⟨mk_t4 114 rfl rfl, List.forall_mem_cons.mpr ⟨mk_t4 115 rfl rfl, fun _ h => absurd h List.not_mem_nil⟩⟩
theorem mk_cl44 : ∀ w ∈ mk_cw (7, 312, 191, 0), w ∈ mk_tb := List.forall_mem_cons.mpr ⟨mk_t3 73 rfl rfl, List.forall_mem_cons.mpr ⟨mk_t3 74 rfl rfl, List.forall_mem_cons.mpr ⟨mk_t3 75 rfl rfl, fun _ h => absurd h List.not_mem_nil⟩⟩⟩
theorem mk_cl45 : ∀ w ∈ mk_cw (7, 315, 194, 0), w ∈ mk_tb := List.forall_mem_cons.mpr ⟨mk_t4 70 rfl rfl, List.forall_mem_cons.mpr ⟨mk_t4 71 rfl rfl, List.forall_mem_cons.mpr ⟨mk_t4 72 rfl rfl, fun _ h => absurd h List.not_mem_nil⟩⟩⟩
theorem mk_cl46 : ∀ w ∈ mk_cw (7, 332, 8, 0), w ∈ mk_tb := List.forall_mem_cons.mpr ⟨mk_t4 144 rfl rfl, List.forall_mem_cons.mpr ⟨mk_t3 1 rfl rfl, List.forall_mem_cons.mpr ⟨mk_t3 2 rfl rfl, fun _ h => absurd h List.not_mem_nil⟩⟩⟩
theorem mk_cl47 : ∀ w ∈ mk_cw (7, 336, 164, 0), w ∈ mk_tb := List.forall_mem_cons.mpr ⟨mk_t4 149 rfl rfl, List.forall_mem_cons.mpr ⟨mk_t4 150 rfl rfl, List.forall_mem_cons.mpr ⟨mk_t4 151 rfl rfl, fun _ h => absurd h List.not_mem_nil⟩⟩⟩
theorem mk_cl48 : ∀ w ∈ mk_cw (7, 339, 170, 0), w ∈ mk_tb := List.forall_mem_cons.mpr ⟨mk_t3 81 rfl rfl, List.forall_mem_cons.mpr ⟨mk_t3 82 rfl rfl, List.forall_mem_cons.mpr ⟨mk_t3 83 rfl rfl, fun _ h => absurd h List.not_mem_nil⟩⟩⟩
theorem mk_cl49 : ∀ w ∈ mk_cw (7, 349, 45, 1), w ∈ mk_tb := List.forall_mem_cons.mpr ⟨mk_t3 60 rfl rfl, List.forall_mem_cons.mpr ⟨mk_t3 47 rfl rfl, fun _ h => absurd h List.not_mem_nil⟩⟩
theorem mk_cl50 : ∀ w ∈ mk_cw (7, 352, 192, 0), w ∈ mk_tb := List.forall_mem_cons.mpr ⟨mk_t3 200 rfl rfl, List.forall_mem_cons.mpr ⟨mk_t3 201 rfl rfl, List.forall_mem_cons.mpr ⟨mk_t3 202 rfl rfl, fun _ h => absurd h List.not_mem_nil⟩⟩⟩
theorem mk_cl51 : ∀ w ∈ mk_cw (7, 355, 180, 0), w ∈ mk_tb := List.forall_mem_cons.mpr ⟨mk_t3 204 rfl rfl, List.forall_mem_cons.mpr ⟨mk_t3 143 rfl rfl, List.forall_mem_cons.mpr ⟨mk_t3 144 rfl rfl, fun _ h => absurd h List.not_mem_nil⟩⟩⟩
theorem mk_cl52 : ∀ w ∈ mk_cw (7, 358, 182, 0), w ∈ mk_tb := List.forall_mem_cons.mpr ⟨mk_t3 205 rfl rfl, List.forall_mem_cons.mpr ⟨mk_t3 152 rfl rfl, List.forall_mem_cons.mpr ⟨mk_t3 153 rfl rfl, fun _ h => absurd h List.not_mem_nil⟩⟩⟩
theorem mk_cl53 : ∀ w ∈ mk_cw (7, 361, 165, 0), w ∈ mk_tb := List.forall_mem_cons.mpr ⟨mk_t3 237 rfl rfl, List.forall_mem_cons.mpr ⟨mk_t3 95 rfl rfl, List.forall_mem_cons.mpr ⟨mk_t3 96 rfl rfl, fun _ h => absurd h List.not_mem_nil⟩⟩⟩
theorem mk_cl54 : ∀ w ∈ mk_cw (7, 364, 166, 0), w ∈ mk_tb := List.forall_mem_cons.mpr ⟨mk_t3 238 rfl rfl, List.forall_mem_cons.mpr ⟨mk_t3 99 rfl rfl, List.forall_mem_cons.mpr ⟨mk_t3 100 rfl rfl, fun _ h => absurd h List.not_mem_nil⟩⟩⟩
theorem mk_cl55 : ∀ w ∈ mk_cw (7, 367, 179, 0), w ∈ mk_tb := List.forall_mem_cons.mpr ⟨mk_t4 15 rfl rfl, List.forall_mem_cons.mpr ⟨mk_t4 16 rfl rfl, List.forall_mem_cons.mpr ⟨mk_t4 17 rfl rfl, fun _ h => absurd h List.not_mem_nil⟩⟩⟩
theorem mk_cl56 : ∀ w ∈ mk_cw (8, 115, 72, 1), w ∈ mk_tb := List.forall_mem_cons.mpr ⟨mk_t4 169 rfl rfl, List.forall_mem_cons.mpr ⟨mk_t4 170 rfl rfl, fun _ h => absurd h List.not_mem_nil⟩⟩
theorem mk_cl57 : ∀ w ∈ mk_cw (8, 122, 76, 1), w ∈ mk_tb := List.forall_mem_cons.mpr ⟨mk_t5 135 rfl rfl, List.forall_mem_cons.mpr ⟨mk_t5 136 rfl rfl, fun _ h => absurd h List.not_mem_nil⟩⟩
theorem mk_cl58 : ∀ w ∈ mk_cw (8, 126, 74, 0), w ∈ mk_tb := List.forall_mem_cons.mpr ⟨mk_t5 142 rfl rfl, List.forall_mem_cons.mpr ⟨mk_t5 144 rfl rfl, List.forall_mem_cons.mpr ⟨mk_tp 49 rfl, fun _ h => absurd h List.not_mem_nil⟩⟩⟩
theorem mk_cl59 : ∀ w ∈ mk_cw (8, 130, 81, 0), w ∈ mk_tb := List.forall_mem_cons.mpr ⟨mk_t5 154 rfl rfl, List.forall_mem_cons.mpr ⟨mk_t5 155 rfl rfl, List.forall_mem_cons.mpr ⟨mk_t5 156 rfl rfl, fun _ h => absurd h List.not_mem_nil⟩⟩⟩
theorem mk_cl60 : ∀ w ∈ mk_cw (8, 143, 82, 1), w ∈ mk_tb := List.forall_mem_cons.mpr ⟨mk_t5 163 rfl rfl, List.forall_mem_cons.mpr ⟨mk_t5 164 rfl rfl, fun _ h => absurd h List.not_mem_nil⟩⟩
theorem mk_cl61 : ∀ w ∈ mk_cw (8, 158, 84, 0), w ∈ mk_tb := List.forall_mem_cons.mpr ⟨mk_t4 172 rfl rfl, List.forall_mem_cons.mpr ⟨mk_t4 174 rfl rfl, List.forall_mem_cons.mpr ⟨mk_tp 41 rfl, fun _ h => absurd h List.not_mem_nil⟩⟩⟩
theorem mk_cl62 : ∀ w ∈ mk_cw (8, 168, 86, 1), w ∈ mk_tb := List.forall_mem_cons.mpr ⟨mk_t4 189 rfl rfl, List.forall_mem_cons.mpr ⟨mk_t4 190 rfl rfl, fun _ h => absurd h List.not_mem_nil⟩⟩
theorem mk_cl63 : ∀ w ∈ mk_cw (8, 174, 87, 0), w ∈ mk_tb := List.forall_mem_cons.mpr ⟨mk_t4 181 rfl rfl, List.forall_mem_cons.mpr ⟨mk_t4 183 rfl rfl, List.forall_mem_cons.mpr ⟨mk_tp 43 rfl, fun _ h => absurd h List.not_mem_nil⟩⟩⟩
theorem mk_cl64 : ∀ w ∈ mk_cw (8, 178, 89, 0), w ∈ mk_tb := List.forall_mem_cons.mpr ⟨mk_t4 196 rfl rfl, List.forall_mem_cons.mpr ⟨mk_t4 198 rfl rfl, List.forall_mem_cons.mpr ⟨mk_tp 46 rfl, fun _ h => absurd h List.not_mem_nil⟩⟩⟩
theorem mk_cl65 : ∀ w ∈ mk_cw (8, 181, 88, 0), w ∈ mk_tb := List.forall_mem_cons.mpr ⟨mk_t4 185 rfl rfl, List.forall_mem_cons.mpr ⟨mk_t4 187 rfl rfl, List.forall_mem_cons.mpr ⟨mk_tp 44 rfl, fun _ h => absurd h List.not_mem_nil⟩⟩⟩
theorem mk_cl66 : ∀ w ∈ mk_cw (8, 184, 85, 0), w ∈ mk_tb := List.forall_mem_cons.mpr ⟨mk_t4 165 rfl rfl, List.forall_mem_cons.mpr ⟨mk_t4 167 rfl rfl, List.forall_mem_cons.mpr ⟨mk_tp 40 rfl, fun _ h => absurd h List.not_mem_nil⟩⟩⟩
theorem mk_cl67 : ∀ w ∈ mk_cw (8, 188, 90, 0), w ∈ mk_tb := List.forall_mem_cons.mpr ⟨mk_t4 192 rfl rfl, List.forall_mem_cons.mpr ⟨mk_t4 194 rfl rfl, List.forall_mem_cons.mpr ⟨mk_tp 45 rfl, fun _ h => absurd h List.not_mem_nil⟩⟩⟩
theorem mk_cl68 : ∀ w ∈ mk_cw (8, 191, 92, 0), w ∈ mk_tb := List.forall_mem_cons.mpr ⟨mk_t4 200 rfl rfl, List.forall_mem_cons.mpr ⟨mk_t4 202 rfl rfl, List.forall_mem_cons.mpr ⟨mk_tp 47 rfl, fun _ h => absurd h List.not_mem_nil⟩⟩⟩
theorem mk_cl69 : ∀ w ∈ mk_cw (8, 194, 91, 0), w ∈ mk_tb := List.forall_mem_cons.mpr ⟨mk_t4 204 rfl rfl, List.forall_mem_cons.mpr ⟨mk_t4 206 rfl rfl, List.forall_mem_cons.mpr ⟨mk_tp 48 rfl, fun _ h => absurd h List.not_mem_nil⟩⟩⟩
theorem mk_cl70 : ∀ w ∈ mk_cw (8, 197, 93, 0), w ∈ mk_tb := List.forall_mem_cons.mpr ⟨mk_t4 176 rfl rfl, List.forall_mem_cons.mpr ⟨mk_t4 178 rfl rfl, List.forall_mem_cons.mpr ⟨mk_tp 42 rfl, fun _ h => absurd h List.not_mem_nil⟩⟩⟩
theorem mk_cl71 : ∀ w ∈ mk_cw (8, 201, 95, 1), w ∈ mk_tb := List.forall_mem_cons.mpr ⟨mk_t5 215 rfl rfl, List.forall_mem_cons.mpr ⟨mk_t5 216 rfl rfl, fun _ h => absurd h List.not_mem_nil⟩⟩
theorem mk_cl72 : ∀ w ∈ mk_cw (8, 205, 96, 0), w ∈ mk_tb := List.forall_mem_cons.mpr ⟨mk_t5 211 rfl rfl, List.forall_mem_cons.mpr ⟨mk_t5 213 rfl rfl, List.forall_mem_cons.mpr ⟨mk_tp 55 rfl, fun _ h => absurd h List.not_mem_nil⟩⟩⟩
theorem mk_cl73 : ∀ w ∈ mk_cw (8, 208, 73, 1), w ∈ mk_tb := List.forall_mem_cons.mpr ⟨mk_t5 218 rfl rfl, List.forall_mem_cons.mpr ⟨mk_t5 219 rfl rfl, fun _ h => absurd h List.not_mem_nil⟩⟩
theorem mk_cl74 : ∀ w ∈ mk_cw (8, 211, 100, 0), w ∈ mk_tb := List.forall_mem_cons.mpr ⟨mk_t5 175 rfl rfl, List.forall_mem_cons.mpr ⟨mk_t5 177 rfl rfl, List.forall_mem_cons.mpr ⟨mk_tp 50 rfl, fun _ h => absurd h List.not_mem_nil⟩⟩⟩
theorem mk_cl75 : ∀ w ∈ mk_cw (8, 215, 75, 0), w ∈ mk_tb := List.forall_mem_cons.mpr ⟨mk_t5 183 rfl rfl, List.forall_mem_cons.mpr ⟨mk_t5 185 rfl rfl, List.forall_mem_cons.mpr ⟨mk_tp 51 rfl, fun _ h => absurd h List.not_mem_nil⟩⟩⟩
theorem mk_cl76 : ∀ w ∈ mk_cw (8, 225, 103, 0), w ∈ mk_tb := List.forall_mem_cons.mpr ⟨mk_t5 195 rfl rfl, List.forall_mem_cons.mpr ⟨mk_t5 197 rfl rfl, List.forall_mem_cons.mpr ⟨mk_tp 52 rfl, fun _ h => absurd h List.not_mem_nil⟩⟩⟩
theorem mk_cl77 : ∀ w ∈ mk_cw (8, 228, 98, 0), w ∈ mk_tb := List.forall_mem_cons.mpr ⟨mk_t5 207 rfl rfl, List.forall_mem_cons.mpr ⟨mk_t5 209 rfl rfl, List.forall_mem_cons.mpr ⟨mk_tp 54 rfl, fun _ h => absurd h List.not_mem_nil⟩⟩⟩
theorem mk_cl78 : ∀ w ∈ mk_cw (8, 235, 105, 0), w ∈ mk_tb := List.forall_mem_cons.mpr ⟨mk_t5 203 rfl rfl, List.forall_mem_cons.mpr ⟨mk_t5 205 rfl rfl, List.forall_mem_cons.mpr ⟨mk_tp 53 rfl, fun _ h => absurd h List.not_mem_nil⟩⟩⟩
theorem mk_cl79 : ∀ w ∈ mk_cw (8, 238, 106, 0), w ∈ mk_tb := List.forall_mem_cons.mpr ⟨mk_t5 221 rfl rfl, List.forall_mem_cons.mpr ⟨mk_t5 223 rfl rfl, List.forall_mem_cons.mpr ⟨mk_tp 56 rfl, fun _ h => absurd h List.not_mem_nil⟩⟩⟩
theorem mk_cl80 : ∀ w ∈ mk_cw (8, 241, 108, 0), w ∈ mk_tb := List.forall_mem_cons.mpr ⟨mk_t6 1 rfl rfl, List.forall_mem_cons.mpr ⟨mk_t6 3 rfl rfl, List.forall_mem_cons.mpr ⟨mk_tp 60 rfl, fun _ h => absurd h List.not_mem_nil⟩⟩⟩
theorem mk_cl81 : ∀ w ∈ mk_cw (8, 244, 109, 0), w ∈ mk_tb := List.forall_mem_cons.mpr ⟨mk_t5 237 rfl rfl, List.forall_mem_cons.mpr ⟨mk_t5 239 rfl rfl, List.forall_mem_cons.mpr ⟨mk_tp 59 rfl, fun _ h => absurd h List.not_mem_nil⟩⟩⟩
theorem mk_cl82 : ∀ w ∈ mk_cw (8, 247, 110, 0), w ∈ mk_tb := List.forall_mem_cons.mpr ⟨mk_t6 5 rfl rfl, List.forall_mem_cons.mpr ⟨mk_t6 7 rfl rfl, List.forall_mem_cons.mpr ⟨mk_tp 61 rfl, fun _ h => absurd h List.not_mem_nil⟩⟩⟩
theorem mk_cl83 : ∀ w ∈ mk_cw (8, 253, 111, 0), w ∈ mk_tb := List.forall_mem_cons.mpr ⟨mk_t5 233 rfl rfl, List.forall_mem_cons.mpr ⟨mk_t5 235 rfl rfl, List.forall_mem_cons.mpr ⟨mk_tp 58 rfl, fun _ h => absurd h List.not_mem_nil⟩⟩⟩
theorem mk_cl84 : ∀ w ∈ mk_cw (8, 256, 112, 0), w ∈ mk_tb := List.forall_mem_cons.mpr ⟨mk_t5 229 rfl rfl, List.forall_mem_cons.mpr ⟨mk_t5 231 rfl rfl, List.forall_mem_cons.mpr ⟨mk_tp 57 rfl, fun _ h => absurd h List.not_mem_nil⟩⟩⟩
theorem mk_cl85 : ∀ w ∈ mk_cw (8, 259, 113, 0), w ∈ mk_tb := List.forall_mem_cons.mpr ⟨mk_t6 9 rfl rfl, List.forall_mem_cons.mpr ⟨mk_t6 11 rfl rfl, List.forall_mem_cons.mpr ⟨mk_tp 62 rfl, fun _ h => absurd h List.not_mem_nil⟩⟩⟩
theorem mk_cl86 : ∀ w ∈ mk_cw (8, 262, 115, 0), w ∈ mk_tb := List.forall_mem_cons.mpr ⟨mk_t6 21 rfl rfl, List.forall_mem_cons.mpr ⟨mk_t6 23 rfl rfl, List.forall_mem_cons.mpr ⟨mk_tp 64 rfl, fun _ h => absurd h List.not_mem_nil⟩⟩⟩
theorem mk_cl87 : ∀ w ∈ mk_cw (8, 265, 118, 0), w ∈ mk_tb := List.forall_mem_cons.mpr ⟨mk_t6 25 rfl rfl, List.forall_mem_cons.mpr ⟨mk_t6 27 rfl rfl, List.forall_mem_cons.mpr ⟨mk_tp 65 rfl, fun _ h => absurd h List.not_mem_nil⟩⟩⟩
theorem mk_cl88 : ∀ w ∈ mk_cw (8, 268, 116, 0), w ∈ mk_tb := List.forall_mem_cons.mpr ⟨mk_t6 29 rfl rfl, List.forall_mem_cons.mpr ⟨mk_t6 31 rfl rfl, List.forall_mem_cons.mpr ⟨mk_tp 66 rfl, fun _ h => absurd h List.not_mem_nil⟩⟩⟩
theorem mk_cl89 : ∀ w ∈ mk_cw (8, 271, 117, 0), w ∈ mk_tb := List.forall_mem_cons.mpr ⟨mk_t6 33 rfl rfl, List.forall_mem_cons.mpr ⟨mk_t6 35 rfl rfl, List.forall_mem_cons.mpr ⟨mk_tp 67 rfl, fun _ h => absurd h List.not_mem_nil⟩⟩⟩
theorem mk_cl90 : ∀ w ∈ mk_cw (8, 274, 119, 0), w ∈ mk_tb := List.forall_mem_cons.mpr ⟨mk_t6 17 rfl rfl, List.forall_mem_cons.mpr ⟨mk_t6 19 rfl rfl, List.forall_mem_cons.mpr ⟨mk_tp 63 rfl, fun _ h => absurd h List.not_mem_nil⟩⟩⟩
theorem mk_cl91 : ∀ w ∈ mk_cw (8, 277, 122, 0), w ∈ mk_tb := List.forall_mem_cons.mpr ⟨mk_t6 45 rfl rfl, List.forall_mem_cons.mpr ⟨mk_t6 47 rfl rfl, List.forall_mem_cons.mpr ⟨mk_tp 68 rfl, fun _ h => absurd h List.not_mem_nil⟩⟩⟩
theorem mk_cl92 : ∀ w ∈ mk_cw (8, 280, 125, 0), w ∈ mk_tb := List.forall_mem_cons.mpr ⟨mk_t6 57 rfl rfl, List.forall_mem_cons.mpr ⟨mk_t6 59 rfl rfl, List.forall_mem_cons.mpr ⟨mk_tp 69 rfl, fun _ h => absurd h List.not_mem_nil⟩⟩⟩
theorem mk_cl93 : ∀ w ∈ mk_cw (8, 283, 126, 0), w ∈ mk_tb := List.forall_mem_cons.mpr ⟨mk_t6 61 rfl rfl, List.forall_mem_cons.mpr ⟨mk_t6 63 rfl rfl, List.forall_mem_cons.mpr ⟨mk_tp 70 rfl, fun _ h => absurd h List.not_mem_nil⟩⟩⟩
theorem mk_cl94 : ∀ w ∈ mk_cw (8, 287, 131, 0), w ∈ mk_tb := List.forall_mem_cons.mpr ⟨mk_t6 81 rfl rfl, List.forall_mem_cons.mpr ⟨mk_t6 83 rfl rfl, List.forall_mem_cons.mpr ⟨mk_tp 71 rfl, fun _ h => absurd h List.not_mem_nil⟩⟩⟩
theorem mk_cl95 : ∀ w ∈ mk_cw (8, 290, 135, 0), w ∈ mk_tb := List.forall_mem_cons.mpr ⟨mk_t6 101 rfl rfl, List.forall_mem_cons.mpr ⟨mk_t6 103 rfl rfl, List.forall_mem_cons.mpr ⟨mk_tp 73 rfl, fun _ h => absurd h List.not_mem_nil⟩⟩⟩
theorem mk_cl96 : ∀ w ∈ mk_cw (8, 296, 136, 0), w ∈ mk_tb := List.forall_mem_cons.mpr ⟨mk_t6 97 rfl rfl, List.forall_mem_cons.mpr ⟨mk_t6 99 rfl rfl, List.forall_mem_cons.mpr ⟨mk_tp 72 rfl, fun _ h => absurd h List.not_mem_nil⟩⟩⟩
theorem mk_cl97 : ∀ w ∈ mk_cw (8, 303, 141, 0), w ∈ mk_tb := List.forall_mem_cons.mpr ⟨mk_t6 121 rfl rfl, List.forall_mem_cons.mpr ⟨mk_t6 123 rfl rfl, List.forall_mem_cons.mpr ⟨mk_tp 74 rfl, fun _ h => absurd h List.not_mem_nil⟩⟩⟩
theorem mk_cl98 : ∀ w ∈ mk_cw (8, 311, 144, 0), w ∈ mk_tb := List.forall_mem_cons.mpr ⟨mk_t6 137 rfl rfl, List.forall_mem_cons.mpr ⟨mk_t6 139 rfl rfl, List.forall_mem_cons.mpr ⟨mk_tp 75 rfl, fun _ h => absurd h List.not_mem_nil⟩⟩⟩
theorem mk_cl99 : ∀ w ∈ mk_cw (8, 314, 145, 0), w ∈ mk_tb := List.forall_mem_cons.mpr ⟨mk_t6 141 rfl rfl, List.forall_mem_cons.mpr ⟨mk_t6 143 rfl rfl, List.forall_mem_cons.mpr ⟨mk_tp 76 rfl, fun _ h => absurd h List.not_mem_nil⟩⟩⟩
theorem mk_cl100 : ∀ w ∈ mk_cw (8, 324, 150, 0), w ∈ mk_tb := List.forall_mem_cons.mpr ⟨mk_t6 162 rfl rfl, List.forall_mem_cons.mpr ⟨mk_t6 164 rfl rfl, List.forall_mem_cons.mpr ⟨mk_tp 77 rfl, fun _ h => absurd h List.not_mem_nil⟩⟩⟩
theorem mk_cl101 : ∀ w ∈ mk_cw (8, 327, 151, 0), w ∈ mk_tb := List.forall_mem_cons.mpr ⟨mk_t6 169 rfl rfl, List.forall_mem_cons.mpr ⟨mk_t6 171 rfl rfl, List.forall_mem_cons.mpr ⟨mk_tp 78 rfl, fun _ h => absurd h List.not_mem_nil⟩⟩⟩
theorem mk_cl102 : ∀ w ∈ mk_cw (8, 330, 153, 1), w ∈ mk_tb := List.forall_mem_cons.mpr ⟨mk_t6 177 rfl rfl, List.forall_mem_cons.mpr ⟨mk_t6 178 rfl rfl, fun _ h => absurd h List.not_mem_nil⟩⟩
theorem mk_cl103 : ∀ w ∈ mk_cw (8, 349, 99, 0), w ∈ mk_tb := List.forall_mem_cons.mpr ⟨mk_t6 204 rfl rfl, List.forall_mem_cons.mpr ⟨mk_t5 172 rfl rfl, List.forall_mem_cons.mpr ⟨mk_t5 173 rfl rfl, fun _ h => absurd h List.not_mem_nil⟩⟩⟩
theorem mk_cl104 : ∀ w ∈ mk_cw (8, 352, 161, 1), w ∈ mk_tb := List.forall_mem_cons.mpr ⟨mk_t6 209 rfl rfl, List.forall_mem_cons.mpr ⟨mk_t6 210 rfl rfl, fun _ h => absurd h List.not_mem_nil⟩⟩
theorem mk_cl105 : ∀ w ∈ mk_cw (0, 28, 45, 2), w ∈ mk_tb := List.forall_mem_cons.mpr ⟨mk_t3 47 rfl rfl, fun _ h => absurd h List.not_mem_nil⟩
theorem mk_cl106 : ∀ w ∈ mk_cw (1, 53, 171, 0), w ∈ mk_tb := List.forall_mem_cons.mpr ⟨mk_t3 85 rfl rfl, List.forall_mem_cons.mpr ⟨mk_t3 87 rfl rfl, List.forall_mem_cons.mpr ⟨mk_tp 22 rfl, fun _ h => absurd h List.not_mem_nil⟩⟩⟩
theorem mk_cl107 : ∀ w ∈ mk_cw (1, 57, 174, 0), w ∈ mk_tb := List.forall_mem_cons.mpr ⟨mk_t3 106 rfl rfl, List.forall_mem_cons.mpr ⟨mk_t3 108 rfl rfl, List.forall_mem_cons.mpr ⟨mk_tp 25 rfl, fun _ h => absurd h List.not_mem_nil⟩⟩⟩
theorem mk_cl108 : ∀ w ∈ mk_cw (1, 64, 193, 0), w ∈ mk_tb := List.forall_mem_cons.mpr ⟨mk_t3 114 rfl rfl, List.forall_mem_cons.mpr ⟨mk_t3 115 rfl rfl, List.forall_mem_cons.mpr ⟨mk_t3 116 rfl rfl, fun _ h => absurd h List.not_mem_nil⟩⟩⟩
theorem mk_cl109 : ∀ w ∈ mk_cw (1, 71, 176, 0), w ∈ mk_tb := List.forall_mem_cons.mpr ⟨mk_t3 119 rfl rfl, List.forall_mem_cons.mpr ⟨mk_t3 121 rfl rfl, List.forall_mem_cons.mpr ⟨mk_tp 27 rfl, fun _ h => absurd h List.not_mem_nil⟩⟩⟩
theorem mk_cl110 : ∀ w ∈ mk_cw (1, 75, 177, 0), w ∈ mk_tb := List.forall_mem_cons.mpr ⟨mk_t3 123 rfl rfl, List.forall_mem_cons.mpr ⟨mk_t3 125 rfl rfl, List.forall_mem_cons.mpr ⟨mk_tp 28 rfl, fun _ h => absurd h List.not_mem_nil⟩⟩⟩
theorem mk_cl111 : ∀ w ∈ mk_cw (1, 86, 167, 0), w ∈ mk_tb := List.forall_mem_cons.mpr ⟨mk_t3 89 rfl rfl, List.forall_mem_cons.mpr ⟨mk_t3 28 rfl rfl, List.forall_mem_cons.mpr ⟨mk_t3 29 rfl rfl, fun _ h => absurd h List.not_mem_nil⟩⟩⟩
theorem mk_cl112 : ∀ w ∈ mk_cw (1, 95, 172, 0), w ∈ mk_tb := List.forall_mem_cons.mpr ⟨mk_t3 90 rfl rfl, List.forall_mem_cons.mpr ⟨mk_t3 92 rfl rfl, List.forall_mem_cons.mpr ⟨mk_tp 23 rfl, fun _ h => absurd h List.not_mem_nil⟩⟩⟩
theorem mk_cl113 : ∀ w ∈ mk_cw (1, 102, 173, 0), w ∈ mk_tb := List.forall_mem_cons.mpr ⟨mk_t3 102 rfl rfl, List.forall_mem_cons.mpr ⟨mk_t3 104 rfl rfl, List.forall_mem_cons.mpr ⟨mk_tp 24 rfl, fun _ h => absurd h List.not_mem_nil⟩⟩⟩
theorem mk_cl114 : ∀ w ∈ mk_cw (1, 109, 165, 0), w ∈ mk_tb := List.forall_mem_cons.mpr ⟨mk_t3 94 rfl rfl, List.forall_mem_cons.mpr ⟨mk_t3 95 rfl rfl, List.forall_mem_cons.mpr ⟨mk_t3 96 rfl rfl, fun _ h => absurd h List.not_mem_nil⟩⟩⟩
theorem mk_cl115 : ∀ w ∈ mk_cw (1, 116, 166, 0), w ∈ mk_tb := List.forall_mem_cons.mpr ⟨mk_t3 98 rfl rfl, List.forall_mem_cons.mpr ⟨mk_t3 99 rfl rfl, List.forall_mem_cons.mpr ⟨mk_t3 100 rfl rfl, fun _ h => absurd h List.not_mem_nil⟩⟩⟩
theorem mk_cl116 : ∀ w ∈ mk_cw (1, 122, 175, 0), w ∈ mk_tb := List.forall_mem_cons.mpr ⟨mk_t3 110 rfl rfl, List.forall_mem_cons.mpr ⟨mk_t3 112 rfl rfl, List.forall_mem_cons.mpr ⟨mk_tp 26 rfl, fun _ h => absurd h List.not_mem_nil⟩⟩⟩
theorem mk_cl117 : ∀ w ∈ mk_cw (1, 127, 215, 0), w ∈ mk_tb := List.forall_mem_cons.mpr ⟨mk_t3 127 rfl rfl, List.forall_mem_cons.mpr ⟨mk_t3 36 rfl rfl, List.forall_mem_cons.mpr ⟨mk_t3 37 rfl rfl, fun _ h => absurd h List.not_mem_nil⟩⟩⟩
theorem mk_cl118 : ∀ w ∈ mk_cw (1, 131, 168, 0), w ∈ mk_tb := List.forall_mem_cons.mpr ⟨mk_t3 128 rfl rfl, List.forall_mem_cons.mpr ⟨mk_t3 50 rfl rfl, List.forall_mem_cons.mpr ⟨mk_t3 51 rfl rfl, fun _ h => absurd h List.not_mem_nil⟩⟩⟩
theorem mk_cl119 : ∀ w ∈ mk_cw (1, 143, 169, 0), w ∈ mk_tb := List.forall_mem_cons.mpr ⟨mk_t3 129 rfl rfl, List.forall_mem_cons.mpr ⟨mk_t3 43 rfl rfl, List.forall_mem_cons.mpr ⟨mk_t3 44 rfl rfl, fun _ h => absurd h List.not_mem_nil⟩⟩⟩
theorem mk_cl120 : ∀ w ∈ mk_cw (1, 147, 178, 0), w ∈ mk_tb := List.forall_mem_cons.mpr ⟨mk_t3 150 rfl rfl, List.forall_mem_cons.mpr ⟨mk_t3 131 rfl rfl, List.forall_mem_cons.mpr ⟨mk_t3 132 rfl rfl, fun _ h => absurd h List.not_mem_nil⟩⟩⟩
theorem mk_cl121 : ∀ w ∈ mk_cw (1, 156, 181, 0), w ∈ mk_tb := List.forall_mem_cons.mpr ⟨mk_t3 146 rfl rfl, List.forall_mem_cons.mpr ⟨mk_t3 147 rfl rfl, List.forall_mem_cons.mpr ⟨mk_t3 148 rfl rfl, fun _ h => absurd h List.not_mem_nil⟩⟩⟩
theorem mk_cl122 : ∀ w ∈ mk_cw (1, 159, 180, 0), w ∈ mk_tb := List.forall_mem_cons.mpr ⟨mk_t3 142 rfl rfl, List.forall_mem_cons.mpr ⟨mk_t3 143 rfl rfl, List.forall_mem_cons.mpr ⟨mk_t3 144 rfl rfl, fun _ h => absurd h List.not_mem_nil⟩⟩⟩
theorem mk_cl123 : ∀ w ∈ mk_cw (1, 162, 183, 0), w ∈ mk_tb := List.forall_mem_cons.mpr ⟨mk_t3 156 rfl rfl, List.forall_mem_cons.mpr ⟨mk_t3 157 rfl rfl, List.forall_mem_cons.mpr ⟨mk_t3 158 rfl rfl, fun _ h => absurd h List.not_mem_nil⟩⟩⟩
theorem mk_cl124 : ∀ w ∈ mk_cw (1, 165, 182, 0), w ∈ mk_tb := List.forall_mem_cons.mpr ⟨mk_t3 151 rfl rfl, List.forall_mem_cons.mpr ⟨mk_t3 152 rfl rfl, List.forall_mem_cons.mpr ⟨mk_t3 153 rfl rfl, fun _ h => absurd h List.not_mem_nil⟩⟩⟩
theorem mk_cl125 : ∀ w ∈ mk_cw (1, 168, 184, 0), w ∈ mk_tb := List.forall_mem_cons.mpr ⟨mk_t3 160 rfl rfl, List.forall_mem_cons.mpr ⟨mk_t3 161 rfl rfl, List.forall_mem_cons.mpr ⟨mk_t3 162 rfl rfl, fun _ h => absurd h List.not_mem_nil⟩⟩⟩
theorem mk_cl126 : ∀ w ∈ mk_cw (3, 50, 44, 2), w ∈ mk_tb := List.forall_mem_cons.mpr ⟨mk_t2 91 rfl rfl, fun _ h => absurd h List.not_mem_nil⟩
theorem mk_cl127 : ∀ w ∈ mk_cw (5, 42, 208, 0), w ∈ mk_tb := List.forall_mem_cons.mpr ⟨mk_t2 86 rfl rfl, List.forall_mem_cons.mpr ⟨mk_t2 88 rfl rfl, List.forall_mem_cons.mpr ⟨mk_tp 0 rfl, fun _ h => absurd h List.not_mem_nil⟩⟩⟩
theorem mk_cl128 : ∀ w ∈ mk_cw (5, 45, 199, 0), w ∈ mk_tb := List.forall_mem_cons.mpr ⟨mk_t2 114 rfl rfl, List.forall_mem_cons.mpr ⟨mk_t2 116 rfl rfl, List.forall_mem_cons.mpr ⟨mk_tp 5 rfl, fun _ h => absurd h List.not_mem_nil⟩⟩⟩
theorem mk_cl129 : ∀ w ∈ mk_cw (5, 49, 201, 0), w ∈ mk_tb := List.forall_mem_cons.mpr ⟨mk_t2 118 rfl rfl, List.forall_mem_cons.mpr ⟨mk_t2 120 rfl rfl, List.forall_mem_cons.mpr ⟨mk_tp 6 rfl, fun _ h => absurd h List.not_mem_nil⟩⟩⟩
theorem mk_cl130 : ∀ w ∈ mk_cw (5, 52, 202, 0), w ∈ mk_tb := List.forall_mem_cons.mpr ⟨mk_t2 122 rfl rfl, List.forall_mem_cons.mpr ⟨mk_t2 124 rfl rfl, List.forall_mem_cons.mpr ⟨mk_tp 7 rfl, fun _ h => absurd h List.not_mem_nil⟩⟩⟩
theorem mk_cl131 : ∀ w ∈ mk_cw (5, 55, 200, 0), w ∈ mk_tb := List.forall_mem_cons.mpr ⟨mk_t2 138 rfl rfl, List.forall_mem_cons.mpr ⟨mk_t2 140 rfl rfl, List.forall_mem_cons.mpr ⟨mk_tp 11 rfl, fun _ h => absurd h List.not_mem_nil⟩⟩⟩
theorem mk_cl132 : ∀ w ∈ mk_cw (5, 59, 203, 0), w ∈ mk_tb := List.forall_mem_cons.mpr ⟨mk_t2 126 rfl rfl, List.forall_mem_cons.mpr ⟨mk_t2 128 rfl rfl, List.forall_mem_cons.mpr ⟨mk_tp 8 rfl, fun _ h => absurd h List.not_mem_nil⟩⟩⟩
theorem mk_cl133 : ∀ w ∈ mk_cw (5, 62, 207, 0), w ∈ mk_tb := List.forall_mem_cons.mpr ⟨mk_t2 130 rfl rfl, List.forall_mem_cons.mpr ⟨mk_t2 132 rfl rfl, List.forall_mem_cons.mpr ⟨mk_tp 9 rfl, fun _ h => absurd h List.not_mem_nil⟩⟩⟩
theorem mk_cl134 : ∀ w ∈ mk_cw (5, 66, 204, 0), w ∈ mk_tb := List.forall_mem_cons.mpr ⟨mk_t2 142 rfl rfl, List.forall_mem_cons.mpr ⟨mk_t2 144 rfl rfl, List.forall_mem_cons.mpr ⟨mk_tp 12 rfl, fun _ h => absurd h List.not_mem_nil⟩⟩⟩
theorem mk_cl135 : ∀ w ∈ mk_cw (5, 69, 205, 0), w ∈ mk_tb := List.forall_mem_cons.mpr ⟨mk_t2 146 rfl rfl, List.forall_mem_cons.mpr ⟨mk_t2 148 rfl rfl, List.forall_mem_cons.mpr ⟨mk_tp 13 rfl, fun _ h => absurd h List.not_mem_nil⟩⟩⟩
theorem mk_cl136 : ∀ w ∈ mk_cw (5, 72, 206, 0), w ∈ mk_tb := List.forall_mem_cons.mpr ⟨mk_t2 134 rfl rfl, List.forall_mem_cons.mpr ⟨mk_t2 136 rfl rfl, List.forall_mem_cons.mpr ⟨mk_tp 10 rfl, fun _ h => absurd h List.not_mem_nil⟩⟩⟩
theorem mk_cl137 : ∀ w ∈ mk_cw (5, 75, 44, 2), w ∈ mk_tb := List.forall_mem_cons.mpr ⟨mk_t2 91 rfl rfl, fun _ h => absurd h List.not_mem_nil⟩
theorem mk_cl138 : ∀ w ∈ mk_cw (5, 79, 209, 0), w ∈ mk_tb := List.forall_mem_cons.mpr ⟨mk_t2 93 rfl rfl, List.forall_mem_cons.mpr ⟨mk_t2 95 rfl rfl, List.forall_mem_cons.mpr ⟨mk_tp 1 rfl, fun _ h => absurd h List.not_mem_nil⟩⟩⟩
theorem mk_cl139 : ∀ w ∈ mk_cw (5, 83, 212, 0), w ∈ mk_tb := List.forall_mem_cons.mpr ⟨mk_t2 97 rfl rfl, List.forall_mem_cons.mpr ⟨mk_t2 99 rfl rfl, List.forall_mem_cons.mpr ⟨mk_tp 2 rfl, fun _ h => absurd h List.not_mem_nil⟩⟩⟩
theorem mk_cl140 : ∀ w ∈ mk_cw (5, 87, 211, 0), w ∈ mk_tb := List.forall_mem_cons.mpr ⟨mk_t2 107 rfl rfl, List.forall_mem_cons.mpr ⟨mk_t2 109 rfl rfl, List.forall_mem_cons.mpr ⟨mk_tp 4 rfl, fun _ h => absurd h List.not_mem_nil⟩⟩⟩
theorem mk_cl141 : ∀ w ∈ mk_cw (5, 90, 210, 1), w ∈ mk_tb := List.forall_mem_cons.mpr ⟨mk_t2 111 rfl rfl, List.forall_mem_cons.mpr ⟨mk_t2 112 rfl rfl, fun _ h => absurd h List.not_mem_nil⟩⟩
theorem mk_cl142 : ∀ w ∈ mk_cw (5, 93, 213, 0), w ∈ mk_tb := List.forall_mem_cons.mpr ⟨mk_t2 101 rfl rfl, List.forall_mem_cons.mpr ⟨mk_t2 103 rfl rfl, List.forall_mem_cons.mpr ⟨mk_tp 3 rfl, fun _ h => absurd h List.not_mem_nil⟩⟩⟩
theorem mk_cl143 : ∀ w ∈ mk_cw (6, 40, 216, 1), w ∈ mk_tb := List.forall_mem_cons.mpr ⟨mk_t3 39 rfl rfl, List.forall_mem_cons.mpr ⟨mk_t3 40 rfl rfl, fun _ h => absurd h List.not_mem_nil⟩⟩
set_option maxRecDepth 100000 in
theorem mk_CLw : ∀ q ∈ mk_CL, ∀ w ∈ mk_cw q, w ∈ mk_tb := List.forall_mem_cons.mpr ⟨mk_cl0, List.forall_mem_cons.mpr ⟨mk_cl1, List.forall_mem_cons.mpr ⟨mk_cl2, List.forall_mem_cons.mpr ⟨mk_cl3, List.forall_mem_cons.mpr ⟨mk_cl4, List.forall_mem_cons.mpr ⟨mk_cl5, List.forall_mem_cons.mpr ⟨mk_cl6, List.forall_mem_cons.mpr ⟨mk_cl7, List.forall_mem_cons.mpr ⟨mk_cl8, List.forall_mem_cons.mpr ⟨mk_cl9, List.forall_mem_cons.mpr ⟨mk_cl10, List.forall_mem_cons.mpr ⟨mk_cl11, List.forall_mem_cons.mpr ⟨mk_cl12, List.forall_mem_cons.mpr ⟨mk_cl13, List.forall_mem_cons.mpr ⟨mk_cl14, List.forall_mem_cons.mpr ⟨mk_cl15, List.forall_mem_cons.mpr ⟨mk_cl16, List.forall_mem_cons.mpr ⟨mk_cl17, List.forall_mem_cons.mpr ⟨mk_cl18, List.forall_mem_cons.mpr ⟨mk_cl19, List.forall_mem_cons.mpr ⟨mk_cl20, List.forall_mem_cons.mpr ⟨mk_cl21, List.forall_mem_cons.mpr ⟨mk_cl22, List.forall_mem_cons.mpr ⟨mk_cl23, List.forall_mem_cons.mpr ⟨mk_cl24, List.forall_mem_cons.mpr ⟨mk_cl25, List.forall_mem_cons.mpr ⟨mk_cl26, List.forall_mem_cons.mpr ⟨mk_cl27, List.forall_mem_cons.mpr ⟨mk_cl28, List.forall_mem_cons.mpr ⟨mk_cl29, List.forall_mem_cons.mpr ⟨mk_cl30, List.forall_mem_cons.mpr ⟨mk_cl31, List.forall_mem_cons.mpr ⟨mk_cl32, List.forall_mem_cons.mpr ⟨mk_cl33, List.forall_mem_cons.mpr ⟨mk_cl34, List.forall_mem_cons.mpr ⟨mk_cl35, List.forall_mem_cons.mpr ⟨mk_cl36, List.forall_mem_cons.mpr ⟨mk_cl37, List.forall_mem_cons.mpr ⟨mk_cl38, List.forall_mem_cons.mpr ⟨mk_cl39, List.forall_mem_cons.mpr ⟨mk_cl40, List.forall_mem_cons.mpr ⟨mk_cl41, List.forall_mem_cons.mpr ⟨mk_cl42, List.forall_mem_cons.mpr ⟨mk_cl43, List.forall_mem_cons.mpr ⟨mk_cl44, List.forall_mem_cons.mpr ⟨mk_cl45, List.forall_mem_cons.mpr ⟨mk_cl46, List.forall_mem_cons.mpr ⟨mk_cl47, List.forall_mem_cons.mpr ⟨mk_cl48, List.forall_mem_cons.mpr ⟨mk_cl49, List.forall_mem_cons.mpr ⟨mk_cl50, List.forall_mem_cons.mpr ⟨mk_cl51, List.forall_mem_cons.mpr ⟨mk_cl52, List.forall_mem_cons.mpr ⟨mk_cl53, List.forall_mem_cons.mpr ⟨mk_cl54, List.forall_mem_cons.mpr ⟨mk_cl55, List.forall_mem_cons.mpr ⟨mk_cl56, List.forall_mem_cons.mpr ⟨mk_cl57, List.forall_mem_cons.mpr ⟨mk_cl58, List.forall_mem_cons.mpr ⟨mk_cl59, List.forall_mem_cons.mpr ⟨mk_cl60, List.forall_mem_cons.mpr ⟨mk_cl61, List.forall_mem_cons.mpr ⟨mk_cl62, List.forall_mem_cons.mpr ⟨mk_cl63, List.forall_mem_cons.mpr ⟨mk_cl64, List.forall_mem_cons.mpr ⟨mk_cl65, List.forall_mem_cons.mpr ⟨mk_cl66, List.forall_mem_cons.mpr ⟨mk_cl67, List.forall_mem_cons.mpr ⟨mk_cl68, List.forall_mem_cons.mpr ⟨mk_cl69, List.forall_mem_cons.mpr ⟨mk_cl70, List.forall_mem_cons.mpr ⟨mk_cl71, List.forall_mem_cons.mpr ⟨mk_cl72, List.forall_mem_cons.mpr ⟨mk_cl73, List.forall_mem_cons.mpr ⟨mk_cl74, List.forall_mem_cons.mpr ⟨mk_cl75, List.forall_mem_cons.mpr ⟨mk_cl76, List.forall_mem_cons.mpr ⟨mk_cl77, List.forall_mem_cons.mpr ⟨mk_cl78, List.forall_mem_cons.mpr ⟨mk_cl79, List.forall_mem_cons.mpr ⟨mk_cl80, List.forall_mem_cons.mpr ⟨mk_cl81, List.forall_mem_cons.mpr ⟨mk_cl82, List.forall_mem_cons.mpr ⟨mk_cl83, List.forall_mem_cons.mpr ⟨mk_cl84, List.forall_mem_cons.mpr ⟨mk_cl85, List.forall_mem_cons.mpr ⟨mk_cl86, List.forall_mem_cons.mpr ⟨mk_cl87, List.forall_mem_cons.mpr ⟨mk_cl88, List.forall_mem_cons.mpr ⟨mk_cl89, List.forall_mem_cons.mpr ⟨mk_cl90, List.forall_mem_cons.mpr ⟨mk_cl91, List.forall_mem_cons.mpr ⟨mk_cl92, List.forall_mem_cons.mpr ⟨mk_cl93, List.forall_mem_cons.mpr ⟨mk_cl94, List.forall_mem_cons.mpr ⟨mk_cl95, List.forall_mem_cons.mpr ⟨mk_cl96, List.forall_mem_cons.mpr ⟨mk_cl97, List.forall_mem_cons.mpr ⟨mk_cl98, List.forall_mem_cons.mpr ⟨mk_cl99, List.forall_mem_cons.mpr ⟨mk_cl100, List.forall_mem_cons.mpr ⟨mk_cl101, List.forall_mem_cons.mpr ⟨mk_cl102, List.forall_mem_cons.mpr ⟨mk_cl103, List.forall_mem_cons.mpr ⟨mk_cl104, List.forall_mem_cons.mpr ⟨mk_cl105, List.forall_mem_cons.mpr ⟨mk_cl106, List.forall_mem_cons.mpr ⟨mk_cl107, List.forall_mem_cons.mpr ⟨mk_cl108, List.forall_mem_cons.mpr ⟨mk_cl109, List.forall_mem_cons.mpr ⟨mk_cl110, List.forall_mem_cons.mpr ⟨mk_cl111, List.forall_mem_cons.mpr ⟨mk_cl112, List.forall_mem_cons.mpr ⟨mk_cl113, List.forall_mem_cons.mpr ⟨mk_cl114, List.forall_mem_cons.mpr ⟨mk_cl115, List.forall_mem_cons.mpr ⟨mk_cl116, List.forall_mem_cons.mpr ⟨mk_cl117, List.forall_mem_cons.mpr ⟨mk_cl118, List.forall_mem_cons.mpr ⟨mk_cl119, List.forall_mem_cons.mpr ⟨mk_cl120, List.forall_mem_cons.mpr ⟨mk_cl121, List.forall_mem_cons.mpr ⟨mk_cl122, List.forall_mem_cons.mpr ⟨mk_cl123, List.forall_mem_cons.mpr ⟨mk_cl124, List.forall_mem_cons.mpr ⟨mk_cl125, List.forall_mem_cons.mpr ⟨mk_cl126, List.forall_mem_cons.mpr ⟨mk_cl127, List.forall_mem_cons.mpr ⟨mk_cl128, List.forall_mem_cons.mpr ⟨mk_cl129, List.forall_mem_cons.mpr ⟨mk_cl130, List.forall_mem_cons.mpr ⟨mk_cl131, List.forall_mem_cons.mpr ⟨mk_cl132, List.forall_mem_cons.mpr ⟨mk_cl133, List.forall_mem_cons.mpr ⟨mk_cl134, List.forall_mem_cons.mpr ⟨mk_cl135, List.forall_mem_cons.mpr ⟨mk_cl136, List.forall_mem_cons.mpr ⟨mk_cl137, List.forall_mem_cons.mpr ⟨mk_cl138, List.forall_mem_cons.mpr ⟨mk_cl139, List.forall_mem_cons.mpr ⟨mk_cl140, List.forall_mem_cons.mpr ⟨mk_cl141, List.forall_mem_cons.mpr ⟨mk_cl142, List.forall_mem_cons.mpr ⟨mk_cl143, fun _ h => absurd h List.not_mem_nil⟩⟩⟩⟩⟩⟩⟩⟩⟩⟩⟩⟩⟩⟩⟩⟩⟩⟩⟩⟩⟩⟩⟩⟩⟩⟩⟩⟩⟩⟩⟩⟩⟩⟩⟩⟩⟩⟩⟩⟩⟩⟩⟩⟩⟩⟩⟩⟩⟩⟩⟩⟩⟩⟩⟩⟩⟩⟩⟩⟩⟩⟩⟩⟩⟩⟩⟩⟩⟩⟩⟩⟩⟩⟩⟩⟩⟩⟩⟩⟩⟩⟩⟩⟩⟩⟩⟩⟩⟩⟩⟩⟩⟩⟩⟩⟩⟩⟩⟩⟩⟩⟩⟩⟩⟩⟩⟩⟩⟩⟩⟩⟩⟩⟩⟩⟩⟩⟩⟩⟩⟩⟩⟩⟩⟩⟩⟩⟩⟩⟩⟩⟩⟩⟩⟩⟩⟩⟩⟩⟩⟩⟩⟩⟩
/-- the calls of nest mates: their words are carried apart -/
def mk_NL : List (Nat × Nat × Nat) := [(0, 28, 45), (3, 50, 44), (5, 75, 44)]
def mk_nw (q : Nat × Nat × Nat) : Cond := .methodLinkNest (mk_cn q.1) q.2.1 (mk_mi q.2.2).1 RX7
theorem mk_NLw : ∀ q ∈ mk_NL, mk_nw q ∈ lw_tbl := List.forall_mem_cons.mpr ⟨List.mem_append_right _ (List.mem_append_right _ (List.mem_append_right _ (List.mem_append_left _ (List.mem_of_getElem? (i := 46) rfl)))), List.forall_mem_cons.mpr ⟨List.mem_append_right _ (List.mem_append_right _ (List.mem_append_right _ (List.mem_append_left _ (List.mem_of_getElem? (i := 118) rfl)))), List.forall_mem_cons.mpr ⟨List.mem_append_right _ (List.mem_append_right _ (List.mem_append_left _ (List.mem_of_getElem? (i := 90) rfl))), fun _ h => absurd h List.not_mem_nil⟩⟩⟩
theorem mk_max0_32 : Cond.methodLink (mk_cn 0) 32 Lib.Math.max.name ∈ mk_tb := mk_t3 53 rfl rfl
theorem mk_max1_150 : Cond.methodLink (mk_cn 1) 150 Lib.Math.max.name ∈ mk_tb := mk_t3 155 rfl rfl
theorem mk_maxs : Cond.static Lib.Math.max.name ∈ mk_tb := mk_t3 54 rfl rfl
theorem mk_maxi : Cond.initialized "java/lang/Math" ∈ mk_tb := mk_t1 14 rfl rfl
theorem mk_maxc : Cond.code Lib.Math.max.name Lib.Math.max.code 2 (some .int) ∈ mk_tb := mk_t3 55 rfl rfl
theorem mk_acp7_326 : Cond.methodLink (mk_cn 7) 326 arraycopyName ∈ mk_tb := mk_t4 137 rfl rfl
theorem mk_acps : Cond.static arraycopyName ∈ mk_tb := mk_t4 138 rfl rfl
theorem mk_acpn : Cond.native arraycopyName ∈ mk_tb := mk_t4 139 rfl rfl
theorem mk_acpi : Cond.initialized "java/lang/System" ∈ mk_tb := mk_t1 15 rfl rfl
theorem mk_abv : Cond.fieldLink (mk_cn 0) 24 "NumbersCalled$Asker" "ABOVE" "[I" ∈ mk_tb := mk_t4 153 rfl rfl
set_option maxRecDepth 100000 in
theorem mk_u0 : ∀ w ∈ wsX00, w ∈ mk_tb := List.forall_mem_cons.mpr ⟨mk_t1 219 rfl rfl, List.forall_mem_cons.mpr ⟨mk_t1 221 rfl rfl, List.forall_mem_cons.mpr ⟨mk_t1 223 rfl rfl, List.forall_mem_cons.mpr ⟨mk_t1 225 rfl rfl, fun _ h => absurd h List.not_mem_nil⟩⟩⟩⟩
set_option maxRecDepth 100000 in
theorem mk_u1 : ∀ w ∈ wsX10, w ∈ mk_tb := List.forall_mem_cons.mpr ⟨mk_t1 160 rfl rfl, List.forall_mem_cons.mpr ⟨mk_t1 162 rfl rfl, List.forall_mem_cons.mpr ⟨mk_t1 164 rfl rfl, List.forall_mem_cons.mpr ⟨mk_t1 166 rfl rfl, List.forall_mem_cons.mpr ⟨mk_t1 168 rfl rfl, List.forall_mem_cons.mpr ⟨mk_t1 170 rfl rfl, List.forall_mem_cons.mpr ⟨mk_t1 172 rfl rfl, List.forall_mem_cons.mpr ⟨mk_t1 174 rfl rfl, List.forall_mem_cons.mpr ⟨mk_t1 176 rfl rfl, List.forall_mem_cons.mpr ⟨mk_t1 178 rfl rfl, List.forall_mem_cons.mpr ⟨mk_t1 180 rfl rfl, List.forall_mem_cons.mpr ⟨mk_t1 182 rfl rfl, fun _ h => absurd h List.not_mem_nil⟩⟩⟩⟩⟩⟩⟩⟩⟩⟩⟩⟩
set_option maxRecDepth 100000 in
theorem mk_u2 : ∀ w ∈ wsX20, w ∈ mk_tb := List.forall_mem_cons.mpr ⟨mk_t1 196 rfl rfl, List.forall_mem_cons.mpr ⟨mk_t1 198 rfl rfl, fun _ h => absurd h List.not_mem_nil⟩⟩
set_option maxRecDepth 100000 in
theorem mk_u3 : ∀ w ∈ wsX30, w ∈ mk_tb := List.forall_mem_cons.mpr ⟨mk_t1 64 rfl rfl, List.forall_mem_cons.mpr ⟨mk_t1 66 rfl rfl, List.forall_mem_cons.mpr ⟨mk_t1 68 rfl rfl, List.forall_mem_cons.mpr ⟨mk_t1 70 rfl rfl, List.forall_mem_cons.mpr ⟨mk_t1 72 rfl rfl, List.forall_mem_cons.mpr ⟨mk_t1 74 rfl rfl, List.forall_mem_cons.mpr ⟨mk_t1 76 rfl rfl, List.forall_mem_cons.mpr ⟨mk_t1 78 rfl rfl, List.forall_mem_cons.mpr ⟨mk_t1 80 rfl rfl, List.forall_mem_cons.mpr ⟨mk_t1 82 rfl rfl, List.forall_mem_cons.mpr ⟨mk_t1 84 rfl rfl, List.forall_mem_cons.mpr ⟨mk_t1 86 rfl rfl, fun _ h => absurd h List.not_mem_nil⟩⟩⟩⟩⟩⟩⟩⟩⟩⟩⟩⟩
set_option maxRecDepth 100000 in
theorem mk_u4 : ∀ w ∈ wsX40, w ∈ mk_tb := List.forall_mem_cons.mpr ⟨mk_t2 18 rfl rfl, List.forall_mem_cons.mpr ⟨mk_t2 20 rfl rfl, List.forall_mem_cons.mpr ⟨mk_t2 22 rfl rfl, fun _ h => absurd h List.not_mem_nil⟩⟩⟩
set_option maxRecDepth 100000 in
theorem mk_u5 : ∀ w ∈ wsX50, w ∈ mk_tb := List.forall_mem_cons.mpr ⟨mk_t1 112 rfl rfl, List.forall_mem_cons.mpr ⟨mk_t1 114 rfl rfl, List.forall_mem_cons.mpr ⟨mk_t1 116 rfl rfl, List.forall_mem_cons.mpr ⟨mk_t1 118 rfl rfl, List.forall_mem_cons.mpr ⟨mk_t1 120 rfl rfl, List.forall_mem_cons.mpr ⟨mk_t1 122 rfl rfl, List.forall_mem_cons.mpr ⟨mk_t1 124 rfl rfl, List.forall_mem_cons.mpr ⟨mk_t1 126 rfl rfl, List.forall_mem_cons.mpr ⟨mk_t1 128 rfl rfl, fun _ h => absurd h List.not_mem_nil⟩⟩⟩⟩⟩⟩⟩⟩⟩
set_option maxRecDepth 100000 in
theorem mk_u6 : ∀ w ∈ wsX60, w ∈ mk_tb := List.forall_mem_cons.mpr ⟨mk_t1 238 rfl rfl, List.forall_mem_cons.mpr ⟨mk_t2 0 rfl rfl, List.forall_mem_cons.mpr ⟨mk_t2 2 rfl rfl, List.forall_mem_cons.mpr ⟨mk_t2 4 rfl rfl, fun _ h => absurd h List.not_mem_nil⟩⟩⟩⟩
set_option maxRecDepth 100000 in
theorem mk_u7 : ∀ w ∈ wsX70, w ∈ mk_tb := List.forall_mem_cons.mpr ⟨mk_t2 165 rfl rfl, List.forall_mem_cons.mpr ⟨mk_t2 167 rfl rfl, List.forall_mem_cons.mpr ⟨mk_t2 169 rfl rfl, List.forall_mem_cons.mpr ⟨mk_t2 171 rfl rfl, List.forall_mem_cons.mpr ⟨mk_t2 173 rfl rfl, List.forall_mem_cons.mpr ⟨mk_t2 175 rfl rfl, List.forall_mem_cons.mpr ⟨mk_t2 177 rfl rfl, List.forall_mem_cons.mpr ⟨mk_t2 179 rfl rfl, List.forall_mem_cons.mpr ⟨mk_t2 181 rfl rfl, List.forall_mem_cons.mpr ⟨mk_t2 183 rfl rfl, List.forall_mem_cons.mpr ⟨mk_t2 185 rfl rfl, fun _ h => absurd h List.not_mem_nil⟩⟩⟩⟩⟩⟩⟩⟩⟩⟩⟩
set_option maxRecDepth 100000 in
theorem mk_u8 : ∀ w ∈ wsX80, w ∈ mk_tb := List.forall_mem_cons.mpr ⟨mk_t5 22 rfl rfl, List.forall_mem_cons.mpr ⟨mk_t5 24 rfl rfl, List.forall_mem_cons.mpr ⟨mk_t5 26 rfl rfl, List.forall_mem_cons.mpr ⟨mk_t5 28 rfl rfl, List.forall_mem_cons.mpr ⟨mk_t5 30 rfl rfl, List.forall_mem_cons.mpr ⟨mk_t5 32 rfl rfl, List.forall_mem_cons.mpr ⟨mk_t5 34 rfl rfl, List.forall_mem_cons.mpr ⟨mk_t5 36 rfl rfl, List.forall_mem_cons.mpr ⟨mk_t5 38 rfl rfl, List.forall_mem_cons.mpr ⟨mk_t5 40 rfl rfl, List.forall_mem_cons.mpr ⟨mk_t5 42 rfl rfl, List.forall_mem_cons.mpr ⟨mk_t5 44 rfl rfl, List.forall_mem_cons.mpr ⟨mk_t5 46 rfl rfl, List.forall_mem_cons.mpr ⟨mk_t5 48 rfl rfl, List.forall_mem_cons.mpr ⟨mk_t5 50 rfl rfl, List.forall_mem_cons.mpr ⟨mk_t5 52 rfl rfl, List.forall_mem_cons.mpr ⟨mk_t5 54 rfl rfl, List.forall_mem_cons.mpr ⟨mk_t5 56 rfl rfl, List.forall_mem_cons.mpr ⟨mk_t5 58 rfl rfl, List.forall_mem_cons.mpr ⟨mk_t5 60 rfl rfl, List.forall_mem_cons.mpr ⟨mk_t5 62 rfl rfl, List.forall_mem_cons.mpr ⟨mk_t5 64 rfl rfl, List.forall_mem_cons.mpr ⟨mk_t5 66 rfl rfl, List.forall_mem_cons.mpr ⟨mk_t5 68 rfl rfl, List.forall_mem_cons.mpr ⟨mk_t5 70 rfl rfl, List.forall_mem_cons.mpr ⟨mk_t5 72 rfl rfl, List.forall_mem_cons.mpr ⟨mk_t5 74 rfl rfl, List.forall_mem_cons.mpr ⟨mk_t5 76 rfl rfl, List.forall_mem_cons.mpr ⟨mk_t5 78 rfl rfl, List.forall_mem_cons.mpr ⟨mk_t5 80 rfl rfl, List.forall_mem_cons.mpr ⟨mk_t5 82 rfl rfl, List.forall_mem_cons.mpr ⟨mk_t5 84 rfl rfl, List.forall_mem_cons.mpr ⟨mk_t5 86 rfl rfl, List.forall_mem_cons.mpr ⟨mk_t5 88 rfl rfl, List.forall_mem_cons.mpr ⟨mk_t5 90 rfl rfl, List.forall_mem_cons.mpr ⟨mk_t5 92 rfl rfl, List.forall_mem_cons.mpr ⟨mk_t5 94 rfl rfl, List.forall_mem_cons.mpr ⟨mk_t5 96 rfl rfl, List.forall_mem_cons.mpr ⟨mk_t5 98 rfl rfl, List.forall_mem_cons.mpr ⟨mk_t5 100 rfl rfl, List.forall_mem_cons.mpr ⟨mk_t5 102 rfl rfl, List.forall_mem_cons.mpr ⟨mk_t5 104 rfl rfl, List.forall_mem_cons.mpr ⟨mk_t5 106 rfl rfl, List.forall_mem_cons.mpr ⟨mk_t5 108 rfl rfl, List.forall_mem_cons.mpr ⟨mk_t5 110 rfl rfl, List.forall_mem_cons.mpr ⟨mk_t5 112 rfl rfl, List.forall_mem_cons.mpr ⟨mk_t5 114 rfl rfl, List.forall_mem_cons.mpr ⟨mk_t5 116 rfl rfl, List.forall_mem_cons.mpr ⟨mk_t5 118 rfl rfl, List.forall_mem_cons.mpr ⟨mk_t5 120 rfl rfl, List.forall_mem_cons.mpr ⟨mk_t5 122 rfl rfl, List.forall_mem_cons.mpr ⟨mk_t5 124 rfl rfl, List.forall_mem_cons.mpr ⟨mk_t5 126 rfl rfl, List.forall_mem_cons.mpr ⟨mk_t5 128 rfl rfl, fun _ h => absurd h List.not_mem_nil⟩⟩⟩⟩⟩⟩⟩⟩⟩⟩⟩⟩⟩⟩⟩⟩⟩⟩⟩⟩⟩⟩⟩⟩⟩⟩⟩⟩⟩⟩⟩⟩⟩⟩⟩⟩⟩⟩⟩⟩⟩⟩⟩⟩⟩⟩⟩⟩⟩⟩⟩⟩⟩⟩
