/-! STUBS of the pure part -/
def Inv (M J : Mem) : Prop := M = M ∧ J = J
theorem pu_init : ∃ J0 : Mem, fX5_reckons M0m = some J0 ∧ Inv M0c J0 := sorry
theorem pu_type (a1 : Int64) (a3 : Int32) {M J : Mem} (hI : Inv M J) : ∃ (r : Int32) (M1 J1 : Mem), fX4_type a1 a3 M = some (r, M1) ∧ fX5_type a1 a3 J = some (r, J1) ∧ Inv M1 J1 := sorry
theorem pu_clear  {M J : Mem} (hI : Inv M J) : ∃ (r : Int32) (M1 J1 : Mem), fX4_clear  M = some (r, M1) ∧ fX5_clear  J = some (r, J1) ∧ Inv M1 J1 := sorry
theorem pu_land  {M J : Mem} (hI : Inv M J) : ∃ (r : Int32) (M1 J1 : Mem), fX4_land  M = some (r, M1) ∧ fX5_land  J = some (r, J1) ∧ Inv M1 J1 := sorry
theorem pu_town (a1 : Int32) (a2 : Int32) {M J : Mem} (hI : Inv M J) : ∃ (r : Int32) (J1 : Mem), fX4_town a1 a2 M = some r ∧ fX5_town a1 a2 J = some (r, J1) ∧ Inv M J1 := sorry
theorem pu_road (a1 : Int32) (a2 : Int32) {M J : Mem} (hI : Inv M J) : ∃ (r : Int32) (J1 : Mem), fX4_road a1 a2 M = some r ∧ fX5_road a1 a2 J = some (r, J1) ∧ Inv M J1 := sorry
theorem pu_stop (a1 : Int32) (a2 : Int32) {M J : Mem} (hI : Inv M J) : ∃ (r : Int32) (J1 : Mem), fX4_stop a1 a2 M = some r ∧ fX5_stop a1 a2 J = some (r, J1) ∧ Inv M J1 := sorry
theorem pu_far (a1 : Int32) (a2 : Int32) {M J : Mem} (hI : Inv M J) : ∃ (r : Int32) (J1 : Mem), fX4_far a1 a2 M = some r ∧ fX5_far a1 a2 J = some (r, J1) ∧ Inv M J1 := sorry
theorem pu_where (a1 : Int32) (a2 : Int32) {M J : Mem} (hI : Inv M J) : ∃ (r : Int32) (J1 : Mem), fX4_where a1 a2 M = some r ∧ fX5_where a1 a2 J = some (r, J1) ∧ Inv M J1 := sorry
theorem pu_off (a1 : Int32) (a2 : Int32) {M J : Mem} (hI : Inv M J) : ∃ (r : Int32) (J1 : Mem), fX4_off a1 a2 M = some r ∧ fX5_off a1 a2 J = some (r, J1) ∧ Inv M J1 := sorry
theorem pu_clock (a1 : Int32) (a2 : Int32) {M J : Mem} (hI : Inv M J) : ∃ (r : Int32) (J1 : Mem), fX4_clock a1 a2 M = some r ∧ fX5_clock a1 a2 J = some (r, J1) ∧ Inv M J1 := sorry
theorem pu_light (a1 : Int32) (a2 : Int32) {M J : Mem} (hI : Inv M J) : ∃ (r : Int32) (J1 : Mem), fX4_light a1 a2 M = some r ∧ fX5_light a1 a2 J = some (r, J1) ∧ Inv M J1 := sorry
theorem pu_pace (a1 : Int32) (a2 : Int32) {M J : Mem} (hI : Inv M J) : ∃ (r : Int32) (J1 : Mem), fX4_pace a1 a2 M = some r ∧ fX5_pace a1 a2 J = some (r, J1) ∧ Inv M J1 := sorry
theorem pu_early (a1 : Int32) (a2 : Int32) (a3 : Int32) {M J : Mem} (hI : Inv M J) : ∃ (r : Int32) (J1 : Mem), fX4_early a1 a2 a3 M = some r ∧ fX5_early a1 a2 a3 J = some (r, J1) ∧ Inv M J1 := sorry
theorem pu_meets (a1 : Int32) (a2 : Int32) (a3 : Int32) (a4 : Int32) (a5 : Int32) (a6 : Int32) {M J : Mem} (hI : Inv M J) : ∃ (r : Int32) (J1 : Mem), fX4_meets a1 a2 a3 a4 a5 a6 M = some r ∧ fX5_meets a1 a2 a3 a4 a5 a6 J = some (r, J1) ∧ Inv M J1 := sorry
theorem pu_midnights (a1 : Int32) (a2 : Int32) (a3 : Int32) {M J : Mem} (hI : Inv M J) : ∃ (r : Int32) (J1 : Mem), fX4_midnights a1 a2 a3 M = some r ∧ fX5_midnights a1 a2 a3 J = some (r, J1) ∧ Inv M J1 := sorry
theorem pu_gains (a1 : Int32) (a2 : Int32) (a3 : Int32) (a4 : Int32) {M J : Mem} (hI : Inv M J) : ∃ (r : Int32) (J1 : Mem), fX4_gains a1 a2 a3 a4 M = some r ∧ fX5_gains a1 a2 a3 a4 J = some (r, J1) ∧ Inv M J1 := sorry
theorem pu_best (a1 : Int32) (a2 : Int32) {M J : Mem} (hI : Inv M J) : ∃ (r : Int32) (M1 J1 : Mem), fX4_best a1 a2 M = some (r, M1) ∧ fX5_best a1 a2 J = some (r, J1) ∧ Inv M1 J1 := sorry
theorem pu_saw (a1 : Int32) (a2 : Int32) (a3 : Int32) {M J : Mem} (hI : Inv M J) : ∃ (r : Int32) (M1 J1 : Mem), fX4_saw a1 a2 a3 M = some (r, M1) ∧ fX5_saw a1 a2 a3 J = some (r, J1) ∧ Inv M1 J1 := sorry
theorem pu_forget  {M J : Mem} (hI : Inv M J) : ∃ (r : Int32) (M1 J1 : Mem), fX4_forget  M = some (r, M1) ∧ fX5_forget  J = some (r, J1) ∧ Inv M1 J1 := sorry
theorem pu_so  {M J : Mem} (hI : Inv M J) : ∃ (r : Int32) (J1 : Mem), fX4_so  M = some r ∧ fX5_so  J = some (r, J1) ∧ Inv M J1 := sorry
theorem pu_stood (a1 : Int32) (a2 : Int32) {M J : Mem} (hI : Inv M J) : ∃ (r : Int32) (J1 : Mem), fX4_stood a1 a2 M = some r ∧ fX5_stood a1 a2 J = some (r, J1) ∧ Inv M J1 := sorry
theorem pu_two  {M J : Mem} (hI : Inv M J) : ∃ (r : Int32) (J1 : Mem), fX4_two  M = some r ∧ fX5_two  J = some (r, J1) ∧ Inv M J1 := sorry
theorem pu_go (a1 : Int32) {M J : Mem} (hI : Inv M J) : ∃ (r : Int32) (M1 J1 : Mem), fX4_go a1 M = some (r, M1) ∧ fX5_go a1 J = some (r, J1) ∧ Inv M1 J1 := sorry
theorem pu_ill (a1 : Int32) (a2 : Int32) {M J : Mem} (hI : Inv M J) : ∃ (r : Int32) (J1 : Mem), fX4_ill a1 a2 M = some r ∧ fX5_ill a1 a2 J = some (r, J1) ∧ Inv M J1 := sorry
theorem pu_rate (a1 : Int32) (a2 : Int32) {M J : Mem} (hI : Inv M J) : ∃ (r : Int32) (M1 J1 : Mem), fX4_rate a1 a2 M = some (r, M1) ∧ fX5_rate a1 a2 J = some (r, J1) ∧ Inv M1 J1 := sorry
theorem pu_keep (a1 : Int32) {M J : Mem} (hI : Inv M J) : ∃ (r : Int32) (M1 J1 : Mem), fX4_keep a1 M = some (r, M1) ∧ fX5_keep a1 J = some (r, J1) ∧ Inv M1 J1 := sorry
theorem pu_back (a1 : Int32) {M J : Mem} (hI : Inv M J) : ∃ (r : Int32) (M1 J1 : Mem), fX4_back a1 M = some (r, M1) ∧ fX5_back a1 J = some (r, J1) ∧ Inv M1 J1 := sorry
theorem pu_count (a1 : Int32) {M J : Mem} (hI : Inv M J) : ∃ (r : Int32) (J1 : Mem), fX4_count a1 M = some r ∧ fX5_count a1 J = some (r, J1) ∧ Inv M J1 := sorry
theorem pu_trace  {M J : Mem} (hI : Inv M J) : ∃ (r : Int64) (J1 : Mem), fX4_trace  M = some r ∧ fX5_trace  J = some (r, J1) ∧ Inv M J1 := sorry
