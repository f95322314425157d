/-! ===== the words don't read the stuck ones ===== -/
theorem rAt38 (g : aH) (v : Int32) : rAt (stI g 63 38 v) = rAt g := rfl
theorem rReasons38 (g : aH) (v : Int32) : rReasons (stI g 63 38 v) = rReasons g := rfl
theorem rCosts38 (g : aH) (v : Int32) : rCosts (stI g 63 38 v) = rCosts g := rfl
theorem stO38 (g : aH) (v : Int32) : stO (stI g 63 38 v) = stO g := rfl
theorem ablO38 (g : aH) (v : Int32) : ablO (stI g 63 38 v) = ablO g := rfl
theorem enO38 (g : aH) (v : Int32) : enO (stI g 63 38 v) = enO g := rfl
theorem frO38 (g : aH) (v : Int32) : frO (stI g 63 38 v) = frO g := rfl
theorem coF38 (g : aH) (v : Int32) : coF (stI g 63 38 v) = coF g := rfl
theorem tbO38 (g : aH) (v : Int32) : tbO (stI g 63 38 v) = tbO g := rfl
theorem ftO38 (g : aH) (v : Int32) : ftO (stI g 63 38 v) = ftO g := rfl
theorem pcO38 (g : aH) (v : Int32) : pcO (stI g 63 38 v) = pcO g := rfl
theorem plD38 (g : aH) (v : Int32) : plD (stI g 63 38 v) = plD g := rfl
theorem plP38 (g : aH) (v : Int32) : plP (stI g 63 38 v) = plP g := rfl
theorem plS38 (g : aH) (v : Int32) : plS (stI g 63 38 v) = plS g := rfl
theorem stS38 (g : aH) (v : Int32) : stS (stI g 63 38 v) = stS g := rfl
theorem plV38 (g : aH) (v : Int32) : plV (stI g 63 38 v) = plV g := rfl
