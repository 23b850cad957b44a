-- facts of the tables, each decided once, with their places as hints; written by wip/gen/mk03.py
def VIL : List Nat := [0, 1, 3, 4, 5, 6, 7, 8, 9, 10, 11, 12, 13, 14, 15, 16, 17, 18, 19, 20, 21, 22, 23, 25, 26, 28, 29, 30, 31, 32, 33, 34, 35, 37, 38, 39, 40, 41, 42, 43, 44, 45, 46, 48, 49, 50, 51, 53, 54, 55, 56, 57, 58, 59, 61, 62, 63, 64, 65, 66, 67, 68, 69, 70, 71, 72, 73, 74, 75, 76, 77, 78, 79, 80, 81, 82, 83, 84, 85, 86, 87, 88, 89, 90, 91, 92, 93, 94, 95, 96, 97, 98, 99, 100, 101, 112, 113, 114, 115, 116, 117, 118, 119, 120, 121, 122, 123, 124, 126, 127, 129, 130, 131, 132, 133, 134, 135, 136, 137, 138, 139, 140, 141, 142, 143, 144, 145, 146, 147, 148, 149, 150, 151, 152, 153, 154, 155, 156, 157, 158, 159, 160, 161, 162, 163, 164, 165, 166, 167, 168, 170, 171, 172, 173, 174, 175, 176, 177, 178, 180, 183, 184, 185, 186, 187, 188, 189, 190, 191, 192, 193, 194, 195, 196, 197, 203, 204, 205, 206, 207, 208, 222]
def SIL : List Nat := [2, 27, 36, 60, 102, 103, 104, 105, 106, 107, 108, 109, 110, 111, 125, 128, 169, 179, 181, 182, 198, 199, 200, 201, 202, 209, 210, 211, 212, 213, 214]
def CIL : List Nat := [24, 47, 52, 215, 216, 217, 218, 219, 220, 221]
def hCode : List (Nat × Nat) := [(2, 90), (2, 86), (2, 99), (2, 235), (2, 51), (2, 202), (2, 39), (2, 194), (2, 154), (2, 56), (2, 63), (2, 78), (2, 82), (2, 109), (2, 167), (2, 171), (2, 182), (4, 133), (4, 149), (2, 214), (2, 227), (2, 222), (3, 7), (3, 62), (3, 85), (3, 112), (3, 120), (3, 123), (3, 127), (3, 132), (3, 186), (4, 36), (3, 190), (4, 31), (3, 194), (3, 198), (3, 201), (4, 53), (4, 98), (3, 36), (3, 49), (4, 83), (3, 45), (4, 107), (3, 116), (4, 27), (4, 23), (1, 81), (2, 43), (2, 239), (2, 117), (2, 70), (1, 117), (3, 3), (2, 27), (2, 47), (2, 74), (2, 113), (2, 125), (2, 129), (2, 132), (2, 137), (2, 141), (2, 146), (2, 150), (2, 159), (2, 163), (2, 177), (2, 187), (2, 198), (2, 206), (2, 210), (2, 218), (2, 231), (3, 12), (3, 17), (3, 21), (3, 25), (3, 29), (3, 41), (3, 58), (3, 67), (3, 71), (3, 75), (4, 41), (4, 45), (4, 49), (4, 58), (4, 66), (4, 71), (4, 75), (4, 79), (4, 90), (4, 103), (4, 113), (4, 117), (4, 121), (4, 125), (4, 129), (4, 137), (4, 141), (4, 145), (2, 33), (2, 102), (2, 30), (2, 190), (3, 32), (4, 93), (5, 24), (5, 80), (6, 122), (5, 148), (5, 42), (5, 169), (5, 46), (5, 34), (5, 96), (5, 30), (5, 21), (5, 54), (5, 50), (5, 58), (5, 38), (5, 66), (5, 62), (5, 87), (5, 84), (5, 92), (5, 103), (5, 100), (5, 107), (5, 111), (5, 116), (5, 124), (5, 120), (5, 129), (5, 141), (5, 137), (5, 145), (5, 133), (5, 153), (5, 161), (5, 157), (5, 165), (5, 173), (5, 181), (5, 177), (5, 189), (5, 185), (5, 197), (5, 205), (5, 201), (5, 193), (5, 213), (5, 209), (5, 217), (5, 225), (5, 221), (5, 229), (6, 1), (5, 233), (6, 5), (6, 9), (6, 13), (6, 25), (6, 29), (6, 21), (6, 33), (6, 45), (6, 52), (6, 49), (6, 60), (6, 41), (6, 37), (6, 56), (6, 17), (6, 64), (5, 70), (6, 68), (5, 77), (5, 74), (5, 236), (6, 99), (6, 72), (6, 77), (6, 84), (6, 88), (6, 92), (6, 96), (6, 103), (6, 107), (6, 111), (6, 115), (6, 126), (6, 119), (6, 130), (6, 134), (6, 138), (2, 59), (2, 66), (3, 54), (2, 96), (2, 93), (3, 136), (3, 146), (3, 208), (3, 212), (3, 140), (3, 150), (3, 156), (3, 153), (3, 219), (3, 216), (3, 224), (3, 161), (1, 37), (1, 30), (1, 71), (1, 190), (1, 208), (4, 154), (1, 22), (3, 79)]
def hIni : List (Nat × Nat) := [(1, 2), (1, 4), (1, 11), (1, 7), (1, 8), (1, 3), (1, 5), (1, 6), (1, 1), (1, 9), (1, 12), (1, 13), (1, 10), (1, 14), (1, 0)]
def hFL : List (Nat × Nat) := [(1, 57), (1, 58), (1, 59), (1, 42), (1, 40), (1, 136), (1, 138), (1, 140), (1, 148), (1, 150), (1, 152), (1, 156), (1, 135), (1, 142), (1, 144), (1, 146), (1, 154), (1, 120), (1, 123), (1, 126), (1, 91), (1, 85), (1, 94), (1, 88), (1, 100), (1, 97), (3, 92), (3, 87), (3, 88), (3, 89), (3, 90), (3, 91), (3, 93), (1, 43), (1, 192), (1, 196), (1, 194), (1, 214), (1, 216), (1, 218), (1, 39), (1, 41), (1, 45), (1, 83), (1, 86), (1, 89), (1, 92), (1, 95), (1, 98), (1, 119), (1, 122), (1, 125), (1, 230), (1, 231), (1, 232), (1, 233), (1, 235), (1, 237), (1, 238), (1, 239), (1, 143), (1, 137), (1, 84), (1, 87), (1, 90), (1, 93), (1, 96), (1, 99), (1, 149), (1, 151), (1, 153), (1, 157), (1, 155), (1, 145), (1, 139), (1, 121), (1, 124), (1, 127), (1, 195), (1, 197), (1, 236), (1, 147), (1, 141), (1, 44), (1, 46), (1, 193), (1, 215), (1, 217), (1, 219), (1, 220), (2, 0), (1, 234), (4, 156), (4, 157), (4, 158), (4, 160), (4, 161), (4, 169), (4, 170), (4, 171), (4, 174), (4, 176), (4, 177), (4, 178), (4, 179), (4, 180), (4, 181), (4, 182), (4, 183), (4, 184), (4, 185), (4, 186), (4, 187), (4, 162), (4, 163), (4, 164), (4, 167), (4, 165), (4, 166), (4, 168), (4, 175), (4, 172), (4, 173), (4, 188), (4, 159)]
def hML : List (Nat × Nat) := [(2, 91), (2, 94), (2, 87), (2, 97), (2, 236), (3, 0), (2, 40), (2, 57), (2, 64), (2, 79), (2, 105), (2, 106), (2, 83), (2, 168), (2, 172), (2, 173), (2, 223), (2, 224), (3, 8), (3, 63), (3, 113), (3, 117), (3, 124), (3, 183), (3, 121), (3, 129), (3, 133), (3, 143), (3, 187), (4, 33), (4, 32), (3, 191), (3, 195), (4, 20), (4, 28), (3, 199), (3, 205), (3, 46), (4, 24), (1, 28), (1, 69), (2, 28), (2, 31), (2, 36), (2, 48), (2, 53), (2, 60), (2, 67), (2, 75), (2, 114), (2, 130), (2, 133), (2, 103), (2, 151), (2, 164), (2, 174), (2, 179), (2, 188), (2, 191), (2, 199), (2, 211), (2, 219), (2, 232), (3, 4), (3, 13), (3, 30), (3, 33), (3, 38), (3, 42), (3, 52), (3, 59), (3, 68), (3, 80), (3, 83), (3, 109), (4, 50), (4, 59), (4, 67), (4, 72), (4, 80), (4, 91), (4, 94), (4, 95), (4, 104), (4, 126), (4, 130), (4, 146), (2, 104), (5, 22), (5, 31), (5, 27), (5, 43), (5, 51), (5, 39), (5, 47), (5, 55), (5, 67), (5, 71), (5, 78), (5, 63), (5, 85), (5, 93), (5, 101), (5, 121), (5, 138), (5, 134), (5, 142), (5, 146), (5, 158), (5, 166), (5, 178), (5, 186), (5, 194), (5, 198), (5, 202), (5, 210), (5, 222), (5, 234), (5, 238), (6, 22), (6, 26), (6, 18), (6, 50), (6, 42), (6, 46), (6, 38), (6, 53), (6, 57), (6, 30), (6, 34), (5, 75), (6, 97), (6, 120), (6, 123), (3, 137), (3, 147), (3, 151), (3, 213), (3, 209), (3, 214), (3, 159), (3, 154), (3, 221), (3, 217), (3, 220), (3, 222), (1, 20), (4, 152), (2, 24), (5, 18), (2, 44), (5, 35), (2, 71), (5, 59), (2, 110), (5, 81), (2, 122), (5, 89), (2, 126), (5, 97), (2, 134), (5, 104), (2, 138), (5, 108), (2, 143), (5, 113), (2, 147), (5, 117), (2, 156), (5, 126), (2, 160), (5, 130), (2, 183), (5, 150), (2, 184), (5, 154), (2, 195), (5, 162), (2, 203), (5, 170), (2, 207), (5, 174), (2, 215), (5, 182), (2, 228), (5, 190), (3, 9), (5, 206), (3, 14), (5, 214), (3, 18), (5, 218), (3, 22), (5, 226), (3, 26), (5, 230), (3, 55), (6, 2), (3, 64), (6, 6), (3, 72), (6, 10), (3, 76), (6, 14), (4, 38), (6, 61), (4, 42), (6, 65), (4, 46), (6, 69), (4, 55), (6, 74), (4, 63), (6, 81), (4, 68), (6, 85), (4, 76), (6, 89), (4, 87), (6, 93), (4, 100), (6, 100), (4, 110), (6, 104), (4, 114), (6, 108), (4, 118), (6, 112), (4, 122), (6, 116), (4, 134), (6, 127), (4, 138), (6, 131), (4, 142), (6, 135)]
def hMN : List (Nat × Nat) := [(1, 35), (1, 79), (1, 115), (2, 52), (2, 100), (3, 50), (1, 211), (1, 213), (2, 118), (1, 188), (1, 206)]
def hCL : List (Nat × Nat) := [(1, 32), (1, 73), (1, 75), (1, 210), (1, 212), (1, 26), (1, 67), (1, 183), (1, 185), (3, 81), (1, 18), (4, 150)]
def hCS : List (Nat × Nat) := [(1, 77), (2, 155), (3, 51), (4, 108), (4, 109), (2, 34), (2, 35), (2, 121), (2, 142), (2, 178), (3, 37), (4, 54), (4, 60), (4, 61), (4, 62), (5, 149), (5, 25), (5, 26), (5, 88), (5, 112), (5, 125), (5, 237), (6, 73), (6, 78), (6, 79), (6, 80)]
def hOI : List (Nat × Nat) := [(1, 23), (1, 31), (1, 72), (3, 86), (1, 191), (1, 209), (1, 38), (1, 82), (1, 118), (4, 155)]
def hAC : List (Nat × Nat) := [(4, 84), (4, 99)]
def hVI : List (Nat × Nat) := [(2, 88), (2, 84), (2, 233), (2, 49), (2, 200), (2, 37), (2, 192), (2, 152), (2, 54), (2, 61), (2, 76), (2, 81), (2, 108), (2, 165), (2, 169), (2, 180), (4, 131), (4, 147), (2, 212), (2, 226), (2, 220), (3, 5), (3, 60), (3, 110), (3, 119), (3, 126), (3, 131), (3, 185), (4, 35), (3, 189), (4, 30), (3, 193), (3, 197), (4, 51), (4, 96), (3, 34), (3, 47), (4, 81), (3, 43), (4, 105), (3, 114), (4, 25), (4, 21), (2, 41), (2, 237), (2, 115), (2, 68), (3, 1), (2, 25), (2, 45), (2, 72), (2, 111), (2, 123), (2, 127), (2, 135), (2, 139), (2, 144), (2, 148), (2, 157), (2, 161), (2, 175), (2, 185), (2, 196), (2, 204), (2, 208), (2, 216), (2, 229), (3, 10), (3, 15), (3, 19), (3, 23), (3, 27), (3, 40), (3, 56), (3, 65), (3, 70), (3, 73), (4, 39), (4, 43), (4, 47), (4, 56), (4, 64), (4, 69), (4, 74), (4, 77), (4, 88), (4, 101), (4, 111), (4, 115), (4, 119), (4, 123), (4, 128), (4, 135), (4, 139), (4, 143), (5, 41), (5, 168), (5, 45), (5, 33), (5, 95), (5, 29), (5, 19), (5, 53), (5, 49), (5, 57), (5, 36), (5, 65), (5, 60), (5, 82), (5, 90), (5, 98), (5, 105), (5, 109), (5, 114), (5, 123), (5, 118), (5, 127), (5, 140), (5, 136), (5, 144), (5, 131), (5, 151), (5, 160), (5, 155), (5, 163), (5, 171), (5, 180), (5, 175), (5, 188), (5, 183), (5, 196), (5, 204), (5, 200), (5, 191), (5, 212), (5, 207), (5, 215), (5, 224), (5, 219), (5, 227), (6, 0), (5, 231), (6, 3), (6, 7), (6, 11), (6, 24), (6, 28), (6, 20), (6, 32), (6, 44), (6, 48), (6, 59), (6, 40), (6, 36), (6, 55), (6, 15), (6, 62), (5, 69), (6, 66), (5, 73), (6, 70), (6, 75), (6, 82), (6, 86), (6, 90), (6, 94), (6, 101), (6, 105), (6, 109), (6, 113), (6, 125), (6, 117), (6, 128), (6, 132), (6, 136), (3, 134), (3, 144), (3, 206), (3, 210), (3, 138), (3, 148), (3, 77)]
def hVS : List (Nat × Nat) := [(2, 89), (2, 85), (2, 234), (2, 50), (2, 201), (2, 38), (2, 193), (2, 153), (2, 55), (2, 62), (2, 77), (0, 0), (0, 1), (2, 166), (2, 170), (2, 181), (4, 132), (4, 148), (2, 213), (0, 2), (2, 221), (3, 6), (3, 61), (3, 111), (0, 5), (0, 6), (0, 7), (0, 8), (0, 13), (0, 9), (0, 12), (0, 10), (0, 11), (4, 52), (4, 97), (3, 35), (3, 48), (4, 82), (3, 44), (4, 106), (3, 115), (4, 26), (4, 22), (2, 42), (2, 238), (2, 116), (2, 69), (3, 2), (2, 26), (2, 46), (2, 73), (2, 112), (2, 124), (2, 128), (2, 136), (2, 140), (2, 145), (2, 149), (2, 158), (2, 162), (2, 176), (2, 186), (2, 197), (2, 205), (2, 209), (2, 217), (2, 230), (3, 11), (3, 16), (3, 20), (3, 24), (3, 28), (0, 3), (3, 57), (3, 66), (0, 4), (3, 74), (4, 40), (4, 44), (4, 48), (4, 57), (4, 65), (4, 70), (0, 14), (4, 78), (4, 89), (4, 102), (4, 112), (4, 116), (4, 120), (4, 124), (0, 15), (4, 136), (4, 140), (4, 144), (0, 18), (0, 32), (0, 19), (0, 17), (0, 26), (0, 16), (5, 20), (0, 21), (0, 20), (0, 22), (5, 37), (0, 23), (5, 61), (5, 83), (5, 91), (5, 99), (5, 106), (5, 110), (5, 115), (0, 27), (5, 119), (5, 128), (0, 29), (0, 28), (0, 30), (5, 132), (5, 152), (0, 31), (5, 156), (5, 164), (5, 172), (0, 33), (5, 176), (0, 34), (5, 184), (0, 35), (0, 37), (0, 36), (5, 192), (0, 38), (5, 208), (5, 216), (0, 39), (5, 220), (5, 228), (0, 40), (5, 232), (6, 4), (6, 8), (6, 12), (0, 42), (0, 43), (0, 41), (0, 44), (0, 47), (0, 48), (0, 50), (0, 46), (0, 45), (0, 49), (6, 16), (6, 63), (0, 24), (6, 67), (0, 25), (6, 71), (6, 76), (6, 83), (6, 87), (6, 91), (6, 95), (6, 102), (6, 106), (6, 110), (6, 114), (0, 51), (6, 118), (6, 129), (6, 133), (6, 137), (3, 135), (3, 145), (3, 207), (3, 211), (3, 139), (3, 149), (3, 78)]
def hSI : List (Nat × Nat) := [(2, 98), (3, 122), (3, 200), (2, 131), (2, 32), (2, 101), (2, 29), (2, 189), (3, 31), (4, 92), (5, 23), (5, 79), (6, 121), (5, 147), (5, 86), (5, 102), (6, 51), (5, 76), (5, 235), (6, 98), (2, 58), (2, 65), (3, 53), (2, 95), (2, 92), (3, 155), (3, 152), (3, 218), (3, 215), (3, 223), (3, 160)]
def hCI : List (Nat × Nat) := [(3, 84), (1, 80), (1, 116), (1, 36), (1, 29), (1, 70), (1, 189), (1, 207), (4, 153), (1, 21)]
def hMisc : List (Nat × Nat) := [(1, 24), (1, 25), (4, 85), (4, 86), (1, 17)]
def hW0 : List (Nat × Nat) := [(1, 60), (1, 62), (1, 64)]
def hW1 : List (Nat × Nat) := [(1, 158), (1, 160), (1, 162), (1, 164), (1, 166), (1, 168), (1, 170), (1, 172), (1, 174), (1, 176), (1, 178), (1, 180)]
def hW2 : List (Nat × Nat) := [(3, 94), (3, 96), (3, 98), (3, 100), (3, 102), (3, 104), (3, 106)]
def hW3 : List (Nat × Nat) := [(1, 198), (1, 200), (1, 202)]
def hW4 : List (Nat × Nat) := [(1, 221), (1, 223), (1, 225), (1, 227)]
def hW5 : List (Nat × Nat) := [(1, 47), (1, 49), (1, 51), (1, 53)]
def hW6 : List (Nat × Nat) := [(1, 101), (1, 103), (1, 105), (1, 107), (1, 109), (1, 111)]
def hW7 : List (Nat × Nat) := [(1, 128), (1, 130), (1, 132)]
def hW8 : List (Nat × Nat) := [(2, 1), (2, 3), (2, 5), (2, 7), (2, 9), (2, 11), (2, 13), (2, 15), (2, 17), (2, 19), (2, 21)]
def hW9 : List (Nat × Nat) := [(4, 189), (4, 191), (4, 193), (4, 195), (4, 197), (4, 199), (4, 201), (4, 203), (4, 205), (4, 207), (4, 209), (4, 211), (4, 213), (4, 215), (4, 217), (4, 219), (4, 221), (4, 223), (4, 225), (4, 227), (4, 229), (4, 231), (4, 233), (4, 235), (4, 237), (4, 239), (5, 1), (5, 3), (5, 5), (5, 7), (5, 9), (5, 11), (5, 13)]
def hIns : List (Nat × Nat) := [(1, 27), (1, 68), (3, 82), (1, 187), (1, 205), (1, 34), (1, 78), (1, 114), (1, 19), (4, 151)]
def hAr : List (Nat × Nat) := [(1, 56), (5, 17), (5, 16)]
def hOv : List (Nat × Nat) := [(1, 33), (1, 74), (1, 76), (1, 184), (1, 186)]
def TP (p : Nat) : List Cond := match p with
  | 0 => k2_sels lw_privs | 1 => tables_1_1 | 2 => tables_1_2 | 3 => tables_1_3 | 4 => tables_1_4 | 5 => tables_1_5 | _ => tables_1_6
theorem TP_in {p : Nat} {w : Cond} (h : w ∈ TP p) : w ∈ lw_tbl := by
  unfold lw_tbl tables_1
  simp only [List.mem_append]
  match p, h with
  | 0, h => exact Or.inl h
  | 1, h => exact Or.inr (Or.inl h)
  | 2, h => exact Or.inr (Or.inr (Or.inl h))
  | 3, h => exact Or.inr (Or.inr (Or.inr (Or.inl h)))
  | 4, h => exact Or.inr (Or.inr (Or.inr (Or.inr (Or.inl h))))
  | 5, h => exact Or.inr (Or.inr (Or.inr (Or.inr (Or.inr (Or.inl h)))))
  | _ + 6, h => exact Or.inr (Or.inr (Or.inr (Or.inr (Or.inr (Or.inr h)))))
def inA (q : Nat × Nat) (w : Cond) : Bool := decide ((TP q.1)[q.2]? = some w)
def inP (q : Nat × Nat) (w : Cond) : Bool := inA q w && goodWord w
theorem inA_ok {q : Nat × Nat} {w : Cond} (h : inA q w = true) : w ∈ lw_tbl := TP_in (List.mem_of_getElem? (of_decide_eq_true h))
theorem inP_ok {q : Nat × Nat} {w : Cond} (h : inP q w = true) : w ∈ TB := by
  unfold inP at h
  rw [Bool.and_eq_true] at h
  exact List.mem_filter.mpr ⟨inA_ok h.1, h.2⟩
/-- a list and its hints -/
def chkL {α : Type} (l : List α) (hs : List (Nat × Nat)) (f : α → Nat × Nat → Bool) : Bool := match l, hs with
  | [], _ => true
  | a :: l, h :: hs => f a h && chkL l hs f
  | _, _ => false
theorem chkL_ok {α : Type} {l : List α} {hs : List (Nat × Nat)} {f : α → Nat × Nat → Bool} (h : chkL l hs f = true) : ∀ a ∈ l, ∃ q, f a q = true := by
  induction l generalizing hs with
  | nil => intro a ha; cases ha
  | cons b l ih =>
    cases hs with
    | nil => simp [chkL] at h
    | cons q hs =>
      simp only [chkL, Bool.and_eq_true] at h
      intro a ha
      rcases List.mem_cons.mp ha with e | e
      · subst e; exact ⟨q, h.1⟩
      · exact ih h.2 a e
theorem TB_good {big : List Cond} (h : ∀ w ∈ TB, w ∈ big) : GoodIn big TB := fun w hw => ⟨h w hw, good_of_word (List.mem_filter.mp hw).2⟩
theorem inR {p i : Nat} {w : Cond} (h : (TP p)[i]? = some w) (g : goodWord w = true) : w ∈ TB := List.mem_filter.mpr ⟨TP_in (List.mem_of_getElem? h), g⟩
theorem mtc_0 : Cond.code (yN 0) (byN 0) (mxN 0) (rtN 0) ∈ TB := inR (p := 2) (i := 90) rfl rfl
theorem mtc_1 : Cond.code (yN 1) (byN 1) (mxN 1) (rtN 1) ∈ TB := inR (p := 2) (i := 86) rfl rfl
theorem mtc_2 : Cond.code (yN 2) (byN 2) (mxN 2) (rtN 2) ∈ TB := inR (p := 2) (i := 99) rfl rfl
theorem mtc_3 : Cond.code (yN 3) (byN 3) (mxN 3) (rtN 3) ∈ TB := inR (p := 2) (i := 235) rfl rfl
theorem mtc_4 : Cond.code (yN 4) (byN 4) (mxN 4) (rtN 4) ∈ TB := inR (p := 2) (i := 51) rfl rfl
theorem mtc_5 : Cond.code (yN 5) (byN 5) (mxN 5) (rtN 5) ∈ TB := inR (p := 2) (i := 202) rfl rfl
theorem mtc_6 : Cond.code (yN 6) (byN 6) (mxN 6) (rtN 6) ∈ TB := inR (p := 2) (i := 39) rfl rfl
theorem mtc_7 : Cond.code (yN 7) (byN 7) (mxN 7) (rtN 7) ∈ TB := inR (p := 2) (i := 194) rfl rfl
theorem mtc_8 : Cond.code (yN 8) (byN 8) (mxN 8) (rtN 8) ∈ TB := inR (p := 2) (i := 154) rfl rfl
theorem mtc_9 : Cond.code (yN 9) (byN 9) (mxN 9) (rtN 9) ∈ TB := inR (p := 2) (i := 56) rfl rfl
theorem mtc_10 : Cond.code (yN 10) (byN 10) (mxN 10) (rtN 10) ∈ TB := inR (p := 2) (i := 63) rfl rfl
theorem mtc_11 : Cond.code (yN 11) (byN 11) (mxN 11) (rtN 11) ∈ TB := inR (p := 2) (i := 78) rfl rfl
theorem mtc_12 : Cond.code (yN 12) (byN 12) (mxN 12) (rtN 12) ∈ TB := inR (p := 2) (i := 82) rfl rfl
theorem mtc_13 : Cond.code (yN 13) (byN 13) (mxN 13) (rtN 13) ∈ TB := inR (p := 2) (i := 109) rfl rfl
theorem mtc_14 : Cond.code (yN 14) (byN 14) (mxN 14) (rtN 14) ∈ TB := inR (p := 2) (i := 167) rfl rfl
theorem mtc_15 : Cond.code (yN 15) (byN 15) (mxN 15) (rtN 15) ∈ TB := inR (p := 2) (i := 171) rfl rfl
theorem mtc_16 : Cond.code (yN 16) (byN 16) (mxN 16) (rtN 16) ∈ TB := inR (p := 2) (i := 182) rfl rfl
theorem mtc_17 : Cond.code (yN 17) (byN 17) (mxN 17) (rtN 17) ∈ TB := inR (p := 4) (i := 133) rfl rfl
theorem mtc_18 : Cond.code (yN 18) (byN 18) (mxN 18) (rtN 18) ∈ TB := inR (p := 4) (i := 149) rfl rfl
theorem mtc_19 : Cond.code (yN 19) (byN 19) (mxN 19) (rtN 19) ∈ TB := inR (p := 2) (i := 214) rfl rfl
theorem mtc_20 : Cond.code (yN 20) (byN 20) (mxN 20) (rtN 20) ∈ TB := inR (p := 2) (i := 227) rfl rfl
theorem mtc_21 : Cond.code (yN 21) (byN 21) (mxN 21) (rtN 21) ∈ TB := inR (p := 2) (i := 222) rfl rfl
theorem mtc_22 : Cond.code (yN 22) (byN 22) (mxN 22) (rtN 22) ∈ TB := inR (p := 3) (i := 7) rfl rfl
theorem mtc_23 : Cond.code (yN 23) (byN 23) (mxN 23) (rtN 23) ∈ TB := inR (p := 3) (i := 62) rfl rfl
theorem mtc_24 : Cond.code (yN 24) (byN 24) (mxN 24) (rtN 24) ∈ TB := inR (p := 3) (i := 85) rfl rfl
theorem mtc_25 : Cond.code (yN 25) (byN 25) (mxN 25) (rtN 25) ∈ TB := inR (p := 3) (i := 112) rfl rfl
theorem mtc_26 : Cond.code (yN 26) (byN 26) (mxN 26) (rtN 26) ∈ TB := inR (p := 3) (i := 120) rfl rfl
theorem mtc_27 : Cond.code (yN 27) (byN 27) (mxN 27) (rtN 27) ∈ TB := inR (p := 3) (i := 123) rfl rfl
theorem mtc_28 : Cond.code (yN 28) (byN 28) (mxN 28) (rtN 28) ∈ TB := inR (p := 3) (i := 127) rfl rfl
theorem mtc_29 : Cond.code (yN 29) (byN 29) (mxN 29) (rtN 29) ∈ TB := inR (p := 3) (i := 132) rfl rfl
theorem mtc_30 : Cond.code (yN 30) (byN 30) (mxN 30) (rtN 30) ∈ TB := inR (p := 3) (i := 186) rfl rfl
theorem mtc_31 : Cond.code (yN 31) (byN 31) (mxN 31) (rtN 31) ∈ TB := inR (p := 4) (i := 36) rfl rfl
theorem mtc_32 : Cond.code (yN 32) (byN 32) (mxN 32) (rtN 32) ∈ TB := inR (p := 3) (i := 190) rfl rfl
theorem mtc_33 : Cond.code (yN 33) (byN 33) (mxN 33) (rtN 33) ∈ TB := inR (p := 4) (i := 31) rfl rfl
theorem mtc_34 : Cond.code (yN 34) (byN 34) (mxN 34) (rtN 34) ∈ TB := inR (p := 3) (i := 194) rfl rfl
theorem mtc_35 : Cond.code (yN 35) (byN 35) (mxN 35) (rtN 35) ∈ TB := inR (p := 3) (i := 198) rfl rfl
theorem mtc_36 : Cond.code (yN 36) (byN 36) (mxN 36) (rtN 36) ∈ TB := inR (p := 3) (i := 201) rfl rfl
theorem mtc_37 : Cond.code (yN 37) (byN 37) (mxN 37) (rtN 37) ∈ TB := inR (p := 4) (i := 53) rfl rfl
theorem mtc_38 : Cond.code (yN 38) (byN 38) (mxN 38) (rtN 38) ∈ TB := inR (p := 4) (i := 98) rfl rfl
theorem mtc_39 : Cond.code (yN 39) (byN 39) (mxN 39) (rtN 39) ∈ TB := inR (p := 3) (i := 36) rfl rfl
theorem mtc_40 : Cond.code (yN 40) (byN 40) (mxN 40) (rtN 40) ∈ TB := inR (p := 3) (i := 49) rfl rfl
theorem mtc_41 : Cond.code (yN 41) (byN 41) (mxN 41) (rtN 41) ∈ TB := inR (p := 4) (i := 83) rfl rfl
theorem mtc_42 : Cond.code (yN 42) (byN 42) (mxN 42) (rtN 42) ∈ TB := inR (p := 3) (i := 45) rfl rfl
theorem mtc_43 : Cond.code (yN 43) (byN 43) (mxN 43) (rtN 43) ∈ TB := inR (p := 4) (i := 107) rfl rfl
theorem mtc_44 : Cond.code (yN 44) (byN 44) (mxN 44) (rtN 44) ∈ TB := inR (p := 3) (i := 116) rfl rfl
theorem mtc_45 : Cond.code (yN 45) (byN 45) (mxN 45) (rtN 45) ∈ TB := inR (p := 4) (i := 27) rfl rfl
theorem mtc_46 : Cond.code (yN 46) (byN 46) (mxN 46) (rtN 46) ∈ TB := inR (p := 4) (i := 23) rfl rfl
theorem mtc_47 : Cond.code (yN 47) (byN 47) (mxN 47) (rtN 47) ∈ TB := inR (p := 1) (i := 81) rfl rfl
theorem mtc_48 : Cond.code (yN 48) (byN 48) (mxN 48) (rtN 48) ∈ TB := inR (p := 2) (i := 43) rfl rfl
theorem mtc_49 : Cond.code (yN 49) (byN 49) (mxN 49) (rtN 49) ∈ TB := inR (p := 2) (i := 239) rfl rfl
theorem mtc_50 : Cond.code (yN 50) (byN 50) (mxN 50) (rtN 50) ∈ TB := inR (p := 2) (i := 117) rfl rfl
theorem mtc_51 : Cond.code (yN 51) (byN 51) (mxN 51) (rtN 51) ∈ TB := inR (p := 2) (i := 70) rfl rfl
theorem mtc_52 : Cond.code (yN 52) (byN 52) (mxN 52) (rtN 52) ∈ TB := inR (p := 1) (i := 117) rfl rfl
theorem mtc_53 : Cond.code (yN 53) (byN 53) (mxN 53) (rtN 53) ∈ TB := inR (p := 3) (i := 3) rfl rfl
theorem mtc_54 : Cond.code (yN 54) (byN 54) (mxN 54) (rtN 54) ∈ TB := inR (p := 2) (i := 27) rfl rfl
theorem mtc_55 : Cond.code (yN 55) (byN 55) (mxN 55) (rtN 55) ∈ TB := inR (p := 2) (i := 47) rfl rfl
theorem mtc_56 : Cond.code (yN 56) (byN 56) (mxN 56) (rtN 56) ∈ TB := inR (p := 2) (i := 74) rfl rfl
theorem mtc_57 : Cond.code (yN 57) (byN 57) (mxN 57) (rtN 57) ∈ TB := inR (p := 2) (i := 113) rfl rfl
theorem mtc_58 : Cond.code (yN 58) (byN 58) (mxN 58) (rtN 58) ∈ TB := inR (p := 2) (i := 125) rfl rfl
theorem mtc_59 : Cond.code (yN 59) (byN 59) (mxN 59) (rtN 59) ∈ TB := inR (p := 2) (i := 129) rfl rfl
theorem mtc_60 : Cond.code (yN 60) (byN 60) (mxN 60) (rtN 60) ∈ TB := inR (p := 2) (i := 132) rfl rfl
theorem mtc_61 : Cond.code (yN 61) (byN 61) (mxN 61) (rtN 61) ∈ TB := inR (p := 2) (i := 137) rfl rfl
theorem mtc_62 : Cond.code (yN 62) (byN 62) (mxN 62) (rtN 62) ∈ TB := inR (p := 2) (i := 141) rfl rfl
theorem mtc_63 : Cond.code (yN 63) (byN 63) (mxN 63) (rtN 63) ∈ TB := inR (p := 2) (i := 146) rfl rfl
theorem mtc_64 : Cond.code (yN 64) (byN 64) (mxN 64) (rtN 64) ∈ TB := inR (p := 2) (i := 150) rfl rfl
theorem mtc_65 : Cond.code (yN 65) (byN 65) (mxN 65) (rtN 65) ∈ TB := inR (p := 2) (i := 159) rfl rfl
theorem mtc_66 : Cond.code (yN 66) (byN 66) (mxN 66) (rtN 66) ∈ TB := inR (p := 2) (i := 163) rfl rfl
theorem mtc_67 : Cond.code (yN 67) (byN 67) (mxN 67) (rtN 67) ∈ TB := inR (p := 2) (i := 177) rfl rfl
theorem mtc_68 : Cond.code (yN 68) (byN 68) (mxN 68) (rtN 68) ∈ TB := inR (p := 2) (i := 187) rfl rfl
theorem mtc_69 : Cond.code (yN 69) (byN 69) (mxN 69) (rtN 69) ∈ TB := inR (p := 2) (i := 198) rfl rfl
theorem mtc_70 : Cond.code (yN 70) (byN 70) (mxN 70) (rtN 70) ∈ TB := inR (p := 2) (i := 206) rfl rfl
theorem mtc_71 : Cond.code (yN 71) (byN 71) (mxN 71) (rtN 71) ∈ TB := inR (p := 2) (i := 210) rfl rfl
theorem mtc_72 : Cond.code (yN 72) (byN 72) (mxN 72) (rtN 72) ∈ TB := inR (p := 2) (i := 218) rfl rfl
theorem mtc_73 : Cond.code (yN 73) (byN 73) (mxN 73) (rtN 73) ∈ TB := inR (p := 2) (i := 231) rfl rfl
theorem mtc_74 : Cond.code (yN 74) (byN 74) (mxN 74) (rtN 74) ∈ TB := inR (p := 3) (i := 12) rfl rfl
theorem mtc_75 : Cond.code (yN 75) (byN 75) (mxN 75) (rtN 75) ∈ TB := inR (p := 3) (i := 17) rfl rfl
theorem mtc_76 : Cond.code (yN 76) (byN 76) (mxN 76) (rtN 76) ∈ TB := inR (p := 3) (i := 21) rfl rfl
theorem mtc_77 : Cond.code (yN 77) (byN 77) (mxN 77) (rtN 77) ∈ TB := inR (p := 3) (i := 25) rfl rfl
theorem mtc_78 : Cond.code (yN 78) (byN 78) (mxN 78) (rtN 78) ∈ TB := inR (p := 3) (i := 29) rfl rfl
theorem mtc_79 : Cond.code (yN 79) (byN 79) (mxN 79) (rtN 79) ∈ TB := inR (p := 3) (i := 41) rfl rfl
theorem mtc_80 : Cond.code (yN 80) (byN 80) (mxN 80) (rtN 80) ∈ TB := inR (p := 3) (i := 58) rfl rfl
theorem mtc_81 : Cond.code (yN 81) (byN 81) (mxN 81) (rtN 81) ∈ TB := inR (p := 3) (i := 67) rfl rfl
theorem mtc_82 : Cond.code (yN 82) (byN 82) (mxN 82) (rtN 82) ∈ TB := inR (p := 3) (i := 71) rfl rfl
theorem mtc_83 : Cond.code (yN 83) (byN 83) (mxN 83) (rtN 83) ∈ TB := inR (p := 3) (i := 75) rfl rfl
theorem mtc_84 : Cond.code (yN 84) (byN 84) (mxN 84) (rtN 84) ∈ TB := inR (p := 4) (i := 41) rfl rfl
theorem mtc_85 : Cond.code (yN 85) (byN 85) (mxN 85) (rtN 85) ∈ TB := inR (p := 4) (i := 45) rfl rfl
theorem mtc_86 : Cond.code (yN 86) (byN 86) (mxN 86) (rtN 86) ∈ TB := inR (p := 4) (i := 49) rfl rfl
theorem mtc_87 : Cond.code (yN 87) (byN 87) (mxN 87) (rtN 87) ∈ TB := inR (p := 4) (i := 58) rfl rfl
theorem mtc_88 : Cond.code (yN 88) (byN 88) (mxN 88) (rtN 88) ∈ TB := inR (p := 4) (i := 66) rfl rfl
theorem mtc_89 : Cond.code (yN 89) (byN 89) (mxN 89) (rtN 89) ∈ TB := inR (p := 4) (i := 71) rfl rfl
theorem mtc_90 : Cond.code (yN 90) (byN 90) (mxN 90) (rtN 90) ∈ TB := inR (p := 4) (i := 75) rfl rfl
theorem mtc_91 : Cond.code (yN 91) (byN 91) (mxN 91) (rtN 91) ∈ TB := inR (p := 4) (i := 79) rfl rfl
theorem mtc_92 : Cond.code (yN 92) (byN 92) (mxN 92) (rtN 92) ∈ TB := inR (p := 4) (i := 90) rfl rfl
theorem mtc_93 : Cond.code (yN 93) (byN 93) (mxN 93) (rtN 93) ∈ TB := inR (p := 4) (i := 103) rfl rfl
theorem mtc_94 : Cond.code (yN 94) (byN 94) (mxN 94) (rtN 94) ∈ TB := inR (p := 4) (i := 113) rfl rfl
theorem mtc_95 : Cond.code (yN 95) (byN 95) (mxN 95) (rtN 95) ∈ TB := inR (p := 4) (i := 117) rfl rfl
theorem mtc_96 : Cond.code (yN 96) (byN 96) (mxN 96) (rtN 96) ∈ TB := inR (p := 4) (i := 121) rfl rfl
theorem mtc_97 : Cond.code (yN 97) (byN 97) (mxN 97) (rtN 97) ∈ TB := inR (p := 4) (i := 125) rfl rfl
theorem mtc_98 : Cond.code (yN 98) (byN 98) (mxN 98) (rtN 98) ∈ TB := inR (p := 4) (i := 129) rfl rfl
theorem mtc_99 : Cond.code (yN 99) (byN 99) (mxN 99) (rtN 99) ∈ TB := inR (p := 4) (i := 137) rfl rfl
theorem mtc_100 : Cond.code (yN 100) (byN 100) (mxN 100) (rtN 100) ∈ TB := inR (p := 4) (i := 141) rfl rfl
theorem mtc_101 : Cond.code (yN 101) (byN 101) (mxN 101) (rtN 101) ∈ TB := inR (p := 4) (i := 145) rfl rfl
theorem mtc_102 : Cond.code (yN 102) (byN 102) (mxN 102) (rtN 102) ∈ TB := inR (p := 2) (i := 33) rfl rfl
theorem mtc_103 : Cond.code (yN 103) (byN 103) (mxN 103) (rtN 103) ∈ TB := inR (p := 2) (i := 102) rfl rfl
theorem mtc_104 : Cond.code (yN 104) (byN 104) (mxN 104) (rtN 104) ∈ TB := inR (p := 2) (i := 30) rfl rfl
theorem mtc_105 : Cond.code (yN 105) (byN 105) (mxN 105) (rtN 105) ∈ TB := inR (p := 2) (i := 190) rfl rfl
theorem mtc_106 : Cond.code (yN 106) (byN 106) (mxN 106) (rtN 106) ∈ TB := inR (p := 3) (i := 32) rfl rfl
theorem mtc_107 : Cond.code (yN 107) (byN 107) (mxN 107) (rtN 107) ∈ TB := inR (p := 4) (i := 93) rfl rfl
theorem mtc_108 : Cond.code (yN 108) (byN 108) (mxN 108) (rtN 108) ∈ TB := inR (p := 5) (i := 24) rfl rfl
theorem mtc_109 : Cond.code (yN 109) (byN 109) (mxN 109) (rtN 109) ∈ TB := inR (p := 5) (i := 80) rfl rfl
theorem mtc_110 : Cond.code (yN 110) (byN 110) (mxN 110) (rtN 110) ∈ TB := inR (p := 6) (i := 122) rfl rfl
theorem mtc_111 : Cond.code (yN 111) (byN 111) (mxN 111) (rtN 111) ∈ TB := inR (p := 5) (i := 148) rfl rfl
theorem mtc_112 : Cond.code (yN 112) (byN 112) (mxN 112) (rtN 112) ∈ TB := inR (p := 5) (i := 42) rfl rfl
theorem mtc_113 : Cond.code (yN 113) (byN 113) (mxN 113) (rtN 113) ∈ TB := inR (p := 5) (i := 169) rfl rfl
theorem mtc_114 : Cond.code (yN 114) (byN 114) (mxN 114) (rtN 114) ∈ TB := inR (p := 5) (i := 46) rfl rfl
theorem mtc_115 : Cond.code (yN 115) (byN 115) (mxN 115) (rtN 115) ∈ TB := inR (p := 5) (i := 34) rfl rfl
theorem mtc_116 : Cond.code (yN 116) (byN 116) (mxN 116) (rtN 116) ∈ TB := inR (p := 5) (i := 96) rfl rfl
theorem mtc_117 : Cond.code (yN 117) (byN 117) (mxN 117) (rtN 117) ∈ TB := inR (p := 5) (i := 30) rfl rfl
theorem mtc_118 : Cond.code (yN 118) (byN 118) (mxN 118) (rtN 118) ∈ TB := inR (p := 5) (i := 21) rfl rfl
theorem mtc_119 : Cond.code (yN 119) (byN 119) (mxN 119) (rtN 119) ∈ TB := inR (p := 5) (i := 54) rfl rfl
theorem mtc_120 : Cond.code (yN 120) (byN 120) (mxN 120) (rtN 120) ∈ TB := inR (p := 5) (i := 50) rfl rfl
theorem mtc_121 : Cond.code (yN 121) (byN 121) (mxN 121) (rtN 121) ∈ TB := inR (p := 5) (i := 58) rfl rfl
theorem mtc_122 : Cond.code (yN 122) (byN 122) (mxN 122) (rtN 122) ∈ TB := inR (p := 5) (i := 38) rfl rfl
theorem mtc_123 : Cond.code (yN 123) (byN 123) (mxN 123) (rtN 123) ∈ TB := inR (p := 5) (i := 66) rfl rfl
theorem mtc_124 : Cond.code (yN 124) (byN 124) (mxN 124) (rtN 124) ∈ TB := inR (p := 5) (i := 62) rfl rfl
theorem mtc_125 : Cond.code (yN 125) (byN 125) (mxN 125) (rtN 125) ∈ TB := inR (p := 5) (i := 87) rfl rfl
theorem mtc_126 : Cond.code (yN 126) (byN 126) (mxN 126) (rtN 126) ∈ TB := inR (p := 5) (i := 84) rfl rfl
theorem mtc_127 : Cond.code (yN 127) (byN 127) (mxN 127) (rtN 127) ∈ TB := inR (p := 5) (i := 92) rfl rfl
theorem mtc_128 : Cond.code (yN 128) (byN 128) (mxN 128) (rtN 128) ∈ TB := inR (p := 5) (i := 103) rfl rfl
theorem mtc_129 : Cond.code (yN 129) (byN 129) (mxN 129) (rtN 129) ∈ TB := inR (p := 5) (i := 100) rfl rfl
theorem mtc_130 : Cond.code (yN 130) (byN 130) (mxN 130) (rtN 130) ∈ TB := inR (p := 5) (i := 107) rfl rfl
theorem mtc_131 : Cond.code (yN 131) (byN 131) (mxN 131) (rtN 131) ∈ TB := inR (p := 5) (i := 111) rfl rfl
theorem mtc_132 : Cond.code (yN 132) (byN 132) (mxN 132) (rtN 132) ∈ TB := inR (p := 5) (i := 116) rfl rfl
theorem mtc_133 : Cond.code (yN 133) (byN 133) (mxN 133) (rtN 133) ∈ TB := inR (p := 5) (i := 124) rfl rfl
theorem mtc_134 : Cond.code (yN 134) (byN 134) (mxN 134) (rtN 134) ∈ TB := inR (p := 5) (i := 120) rfl rfl
theorem mtc_135 : Cond.code (yN 135) (byN 135) (mxN 135) (rtN 135) ∈ TB := inR (p := 5) (i := 129) rfl rfl
theorem mtc_136 : Cond.code (yN 136) (byN 136) (mxN 136) (rtN 136) ∈ TB := inR (p := 5) (i := 141) rfl rfl
theorem mtc_137 : Cond.code (yN 137) (byN 137) (mxN 137) (rtN 137) ∈ TB := inR (p := 5) (i := 137) rfl rfl
theorem mtc_138 : Cond.code (yN 138) (byN 138) (mxN 138) (rtN 138) ∈ TB := inR (p := 5) (i := 145) rfl rfl
theorem mtc_139 : Cond.code (yN 139) (byN 139) (mxN 139) (rtN 139) ∈ TB := inR (p := 5) (i := 133) rfl rfl
theorem mtc_140 : Cond.code (yN 140) (byN 140) (mxN 140) (rtN 140) ∈ TB := inR (p := 5) (i := 153) rfl rfl
theorem mtc_141 : Cond.code (yN 141) (byN 141) (mxN 141) (rtN 141) ∈ TB := inR (p := 5) (i := 161) rfl rfl
theorem mtc_142 : Cond.code (yN 142) (byN 142) (mxN 142) (rtN 142) ∈ TB := inR (p := 5) (i := 157) rfl rfl
theorem mtc_143 : Cond.code (yN 143) (byN 143) (mxN 143) (rtN 143) ∈ TB := inR (p := 5) (i := 165) rfl rfl
theorem mtc_144 : Cond.code (yN 144) (byN 144) (mxN 144) (rtN 144) ∈ TB := inR (p := 5) (i := 173) rfl rfl
theorem mtc_145 : Cond.code (yN 145) (byN 145) (mxN 145) (rtN 145) ∈ TB := inR (p := 5) (i := 181) rfl rfl
theorem mtc_146 : Cond.code (yN 146) (byN 146) (mxN 146) (rtN 146) ∈ TB := inR (p := 5) (i := 177) rfl rfl
theorem mtc_147 : Cond.code (yN 147) (byN 147) (mxN 147) (rtN 147) ∈ TB := inR (p := 5) (i := 189) rfl rfl
theorem mtc_148 : Cond.code (yN 148) (byN 148) (mxN 148) (rtN 148) ∈ TB := inR (p := 5) (i := 185) rfl rfl
theorem mtc_149 : Cond.code (yN 149) (byN 149) (mxN 149) (rtN 149) ∈ TB := inR (p := 5) (i := 197) rfl rfl
theorem mtc_150 : Cond.code (yN 150) (byN 150) (mxN 150) (rtN 150) ∈ TB := inR (p := 5) (i := 205) rfl rfl
theorem mtc_151 : Cond.code (yN 151) (byN 151) (mxN 151) (rtN 151) ∈ TB := inR (p := 5) (i := 201) rfl rfl
theorem mtc_152 : Cond.code (yN 152) (byN 152) (mxN 152) (rtN 152) ∈ TB := inR (p := 5) (i := 193) rfl rfl
theorem mtc_153 : Cond.code (yN 153) (byN 153) (mxN 153) (rtN 153) ∈ TB := inR (p := 5) (i := 213) rfl rfl
theorem mtc_154 : Cond.code (yN 154) (byN 154) (mxN 154) (rtN 154) ∈ TB := inR (p := 5) (i := 209) rfl rfl
theorem mtc_155 : Cond.code (yN 155) (byN 155) (mxN 155) (rtN 155) ∈ TB := inR (p := 5) (i := 217) rfl rfl
theorem mtc_156 : Cond.code (yN 156) (byN 156) (mxN 156) (rtN 156) ∈ TB := inR (p := 5) (i := 225) rfl rfl
theorem mtc_157 : Cond.code (yN 157) (byN 157) (mxN 157) (rtN 157) ∈ TB := inR (p := 5) (i := 221) rfl rfl
theorem mtc_158 : Cond.code (yN 158) (byN 158) (mxN 158) (rtN 158) ∈ TB := inR (p := 5) (i := 229) rfl rfl
theorem mtc_159 : Cond.code (yN 159) (byN 159) (mxN 159) (rtN 159) ∈ TB := inR (p := 6) (i := 1) rfl rfl
theorem mtc_160 : Cond.code (yN 160) (byN 160) (mxN 160) (rtN 160) ∈ TB := inR (p := 5) (i := 233) rfl rfl
theorem mtc_161 : Cond.code (yN 161) (byN 161) (mxN 161) (rtN 161) ∈ TB := inR (p := 6) (i := 5) rfl rfl
theorem mtc_162 : Cond.code (yN 162) (byN 162) (mxN 162) (rtN 162) ∈ TB := inR (p := 6) (i := 9) rfl rfl
theorem mtc_163 : Cond.code (yN 163) (byN 163) (mxN 163) (rtN 163) ∈ TB := inR (p := 6) (i := 13) rfl rfl
theorem mtc_164 : Cond.code (yN 164) (byN 164) (mxN 164) (rtN 164) ∈ TB := inR (p := 6) (i := 25) rfl rfl
theorem mtc_165 : Cond.code (yN 165) (byN 165) (mxN 165) (rtN 165) ∈ TB := inR (p := 6) (i := 29) rfl rfl
theorem mtc_166 : Cond.code (yN 166) (byN 166) (mxN 166) (rtN 166) ∈ TB := inR (p := 6) (i := 21) rfl rfl
theorem mtc_167 : Cond.code (yN 167) (byN 167) (mxN 167) (rtN 167) ∈ TB := inR (p := 6) (i := 33) rfl rfl
theorem mtc_168 : Cond.code (yN 168) (byN 168) (mxN 168) (rtN 168) ∈ TB := inR (p := 6) (i := 45) rfl rfl
theorem mtc_169 : Cond.code (yN 169) (byN 169) (mxN 169) (rtN 169) ∈ TB := inR (p := 6) (i := 52) rfl rfl
theorem mtc_170 : Cond.code (yN 170) (byN 170) (mxN 170) (rtN 170) ∈ TB := inR (p := 6) (i := 49) rfl rfl
theorem mtc_171 : Cond.code (yN 171) (byN 171) (mxN 171) (rtN 171) ∈ TB := inR (p := 6) (i := 60) rfl rfl
theorem mtc_172 : Cond.code (yN 172) (byN 172) (mxN 172) (rtN 172) ∈ TB := inR (p := 6) (i := 41) rfl rfl
theorem mtc_173 : Cond.code (yN 173) (byN 173) (mxN 173) (rtN 173) ∈ TB := inR (p := 6) (i := 37) rfl rfl
theorem mtc_174 : Cond.code (yN 174) (byN 174) (mxN 174) (rtN 174) ∈ TB := inR (p := 6) (i := 56) rfl rfl
theorem mtc_175 : Cond.code (yN 175) (byN 175) (mxN 175) (rtN 175) ∈ TB := inR (p := 6) (i := 17) rfl rfl
theorem mtc_176 : Cond.code (yN 176) (byN 176) (mxN 176) (rtN 176) ∈ TB := inR (p := 6) (i := 64) rfl rfl
theorem mtc_177 : Cond.code (yN 177) (byN 177) (mxN 177) (rtN 177) ∈ TB := inR (p := 5) (i := 70) rfl rfl
theorem mtc_178 : Cond.code (yN 178) (byN 178) (mxN 178) (rtN 178) ∈ TB := inR (p := 6) (i := 68) rfl rfl
theorem mtc_179 : Cond.code (yN 179) (byN 179) (mxN 179) (rtN 179) ∈ TB := inR (p := 5) (i := 77) rfl rfl
theorem mtc_180 : Cond.code (yN 180) (byN 180) (mxN 180) (rtN 180) ∈ TB := inR (p := 5) (i := 74) rfl rfl
theorem mtc_181 : Cond.code (yN 181) (byN 181) (mxN 181) (rtN 181) ∈ TB := inR (p := 5) (i := 236) rfl rfl
theorem mtc_182 : Cond.code (yN 182) (byN 182) (mxN 182) (rtN 182) ∈ TB := inR (p := 6) (i := 99) rfl rfl
theorem mtc_183 : Cond.code (yN 183) (byN 183) (mxN 183) (rtN 183) ∈ TB := inR (p := 6) (i := 72) rfl rfl
theorem mtc_184 : Cond.code (yN 184) (byN 184) (mxN 184) (rtN 184) ∈ TB := inR (p := 6) (i := 77) rfl rfl
theorem mtc_185 : Cond.code (yN 185) (byN 185) (mxN 185) (rtN 185) ∈ TB := inR (p := 6) (i := 84) rfl rfl
theorem mtc_186 : Cond.code (yN 186) (byN 186) (mxN 186) (rtN 186) ∈ TB := inR (p := 6) (i := 88) rfl rfl
theorem mtc_187 : Cond.code (yN 187) (byN 187) (mxN 187) (rtN 187) ∈ TB := inR (p := 6) (i := 92) rfl rfl
theorem mtc_188 : Cond.code (yN 188) (byN 188) (mxN 188) (rtN 188) ∈ TB := inR (p := 6) (i := 96) rfl rfl
theorem mtc_189 : Cond.code (yN 189) (byN 189) (mxN 189) (rtN 189) ∈ TB := inR (p := 6) (i := 103) rfl rfl
theorem mtc_190 : Cond.code (yN 190) (byN 190) (mxN 190) (rtN 190) ∈ TB := inR (p := 6) (i := 107) rfl rfl
theorem mtc_191 : Cond.code (yN 191) (byN 191) (mxN 191) (rtN 191) ∈ TB := inR (p := 6) (i := 111) rfl rfl
theorem mtc_192 : Cond.code (yN 192) (byN 192) (mxN 192) (rtN 192) ∈ TB := inR (p := 6) (i := 115) rfl rfl
theorem mtc_193 : Cond.code (yN 193) (byN 193) (mxN 193) (rtN 193) ∈ TB := inR (p := 6) (i := 126) rfl rfl
theorem mtc_194 : Cond.code (yN 194) (byN 194) (mxN 194) (rtN 194) ∈ TB := inR (p := 6) (i := 119) rfl rfl
theorem mtc_195 : Cond.code (yN 195) (byN 195) (mxN 195) (rtN 195) ∈ TB := inR (p := 6) (i := 130) rfl rfl
theorem mtc_196 : Cond.code (yN 196) (byN 196) (mxN 196) (rtN 196) ∈ TB := inR (p := 6) (i := 134) rfl rfl
theorem mtc_197 : Cond.code (yN 197) (byN 197) (mxN 197) (rtN 197) ∈ TB := inR (p := 6) (i := 138) rfl rfl
theorem mtc_198 : Cond.code (yN 198) (byN 198) (mxN 198) (rtN 198) ∈ TB := inR (p := 2) (i := 59) rfl rfl
theorem mtc_199 : Cond.code (yN 199) (byN 199) (mxN 199) (rtN 199) ∈ TB := inR (p := 2) (i := 66) rfl rfl
theorem mtc_200 : Cond.code (yN 200) (byN 200) (mxN 200) (rtN 200) ∈ TB := inR (p := 3) (i := 54) rfl rfl
theorem mtc_201 : Cond.code (yN 201) (byN 201) (mxN 201) (rtN 201) ∈ TB := inR (p := 2) (i := 96) rfl rfl
theorem mtc_202 : Cond.code (yN 202) (byN 202) (mxN 202) (rtN 202) ∈ TB := inR (p := 2) (i := 93) rfl rfl
theorem mtc_203 : Cond.code (yN 203) (byN 203) (mxN 203) (rtN 203) ∈ TB := inR (p := 3) (i := 136) rfl rfl
theorem mtc_204 : Cond.code (yN 204) (byN 204) (mxN 204) (rtN 204) ∈ TB := inR (p := 3) (i := 146) rfl rfl
theorem mtc_205 : Cond.code (yN 205) (byN 205) (mxN 205) (rtN 205) ∈ TB := inR (p := 3) (i := 208) rfl rfl
theorem mtc_206 : Cond.code (yN 206) (byN 206) (mxN 206) (rtN 206) ∈ TB := inR (p := 3) (i := 212) rfl rfl
theorem mtc_207 : Cond.code (yN 207) (byN 207) (mxN 207) (rtN 207) ∈ TB := inR (p := 3) (i := 140) rfl rfl
theorem mtc_208 : Cond.code (yN 208) (byN 208) (mxN 208) (rtN 208) ∈ TB := inR (p := 3) (i := 150) rfl rfl
theorem mtc_209 : Cond.code (yN 209) (byN 209) (mxN 209) (rtN 209) ∈ TB := inR (p := 3) (i := 156) rfl rfl
theorem mtc_210 : Cond.code (yN 210) (byN 210) (mxN 210) (rtN 210) ∈ TB := inR (p := 3) (i := 153) rfl rfl
theorem mtc_211 : Cond.code (yN 211) (byN 211) (mxN 211) (rtN 211) ∈ TB := inR (p := 3) (i := 219) rfl rfl
theorem mtc_212 : Cond.code (yN 212) (byN 212) (mxN 212) (rtN 212) ∈ TB := inR (p := 3) (i := 216) rfl rfl
theorem mtc_213 : Cond.code (yN 213) (byN 213) (mxN 213) (rtN 213) ∈ TB := inR (p := 3) (i := 224) rfl rfl
theorem mtc_214 : Cond.code (yN 214) (byN 214) (mxN 214) (rtN 214) ∈ TB := inR (p := 3) (i := 161) rfl rfl
theorem mtc_215 : Cond.code (yN 215) (byN 215) (mxN 215) (rtN 215) ∈ TB := inR (p := 1) (i := 37) rfl rfl
theorem mtc_216 : Cond.code (yN 216) (byN 216) (mxN 216) (rtN 216) ∈ TB := inR (p := 1) (i := 30) rfl rfl
theorem mtc_217 : Cond.code (yN 217) (byN 217) (mxN 217) (rtN 217) ∈ TB := inR (p := 1) (i := 71) rfl rfl
theorem mtc_218 : Cond.code (yN 218) (byN 218) (mxN 218) (rtN 218) ∈ TB := inR (p := 1) (i := 190) rfl rfl
theorem mtc_219 : Cond.code (yN 219) (byN 219) (mxN 219) (rtN 219) ∈ TB := inR (p := 1) (i := 208) rfl rfl
theorem mtc_220 : Cond.code (yN 220) (byN 220) (mxN 220) (rtN 220) ∈ TB := inR (p := 4) (i := 154) rfl rfl
theorem mtc_221 : Cond.code (yN 221) (byN 221) (mxN 221) (rtN 221) ∈ TB := inR (p := 1) (i := 22) rfl rfl
theorem mtc_222 : Cond.code (yN 222) (byN 222) (mxN 222) (rtN 222) ∈ TB := inR (p := 3) (i := 79) rfl rfl
theorem mt_code : ∀ j, j < 223 → Cond.code (yN j) (byN j) (mxN j) (rtN j) ∈ TB
  | 0, _ => mtc_0
  | 1, _ => mtc_1
  | 2, _ => mtc_2
  | 3, _ => mtc_3
  | 4, _ => mtc_4
  | 5, _ => mtc_5
  | 6, _ => mtc_6
  | 7, _ => mtc_7
  | 8, _ => mtc_8
  | 9, _ => mtc_9
  | 10, _ => mtc_10
  | 11, _ => mtc_11
  | 12, _ => mtc_12
  | 13, _ => mtc_13
  | 14, _ => mtc_14
  | 15, _ => mtc_15
  | 16, _ => mtc_16
  | 17, _ => mtc_17
  | 18, _ => mtc_18
  | 19, _ => mtc_19
  | 20, _ => mtc_20
  | 21, _ => mtc_21
  | 22, _ => mtc_22
  | 23, _ => mtc_23
  | 24, _ => mtc_24
  | 25, _ => mtc_25
  | 26, _ => mtc_26
  | 27, _ => mtc_27
  | 28, _ => mtc_28
  | 29, _ => mtc_29
  | 30, _ => mtc_30
  | 31, _ => mtc_31
  | 32, _ => mtc_32
  | 33, _ => mtc_33
  | 34, _ => mtc_34
  | 35, _ => mtc_35
  | 36, _ => mtc_36
  | 37, _ => mtc_37
  | 38, _ => mtc_38
  | 39, _ => mtc_39
  | 40, _ => mtc_40
  | 41, _ => mtc_41
  | 42, _ => mtc_42
  | 43, _ => mtc_43
  | 44, _ => mtc_44
  | 45, _ => mtc_45
  | 46, _ => mtc_46
  | 47, _ => mtc_47
  | 48, _ => mtc_48
  | 49, _ => mtc_49
  | 50, _ => mtc_50
  | 51, _ => mtc_51
  | 52, _ => mtc_52
  | 53, _ => mtc_53
  | 54, _ => mtc_54
  | 55, _ => mtc_55
  | 56, _ => mtc_56
  | 57, _ => mtc_57
  | 58, _ => mtc_58
  | 59, _ => mtc_59
  | 60, _ => mtc_60
  | 61, _ => mtc_61
  | 62, _ => mtc_62
  | 63, _ => mtc_63
  | 64, _ => mtc_64
  | 65, _ => mtc_65
  | 66, _ => mtc_66
  | 67, _ => mtc_67
  | 68, _ => mtc_68
  | 69, _ => mtc_69
  | 70, _ => mtc_70
  | 71, _ => mtc_71
  | 72, _ => mtc_72
  | 73, _ => mtc_73
  | 74, _ => mtc_74
  | 75, _ => mtc_75
  | 76, _ => mtc_76
  | 77, _ => mtc_77
  | 78, _ => mtc_78
  | 79, _ => mtc_79
  | 80, _ => mtc_80
  | 81, _ => mtc_81
  | 82, _ => mtc_82
  | 83, _ => mtc_83
  | 84, _ => mtc_84
  | 85, _ => mtc_85
  | 86, _ => mtc_86
  | 87, _ => mtc_87
  | 88, _ => mtc_88
  | 89, _ => mtc_89
  | 90, _ => mtc_90
  | 91, _ => mtc_91
  | 92, _ => mtc_92
  | 93, _ => mtc_93
  | 94, _ => mtc_94
  | 95, _ => mtc_95
  | 96, _ => mtc_96
  | 97, _ => mtc_97
  | 98, _ => mtc_98
  | 99, _ => mtc_99
  | 100, _ => mtc_100
  | 101, _ => mtc_101
  | 102, _ => mtc_102
  | 103, _ => mtc_103
  | 104, _ => mtc_104
  | 105, _ => mtc_105
  | 106, _ => mtc_106
  | 107, _ => mtc_107
  | 108, _ => mtc_108
  | 109, _ => mtc_109
  | 110, _ => mtc_110
  | 111, _ => mtc_111
  | 112, _ => mtc_112
  | 113, _ => mtc_113
  | 114, _ => mtc_114
  | 115, _ => mtc_115
  | 116, _ => mtc_116
  | 117, _ => mtc_117
  | 118, _ => mtc_118
  | 119, _ => mtc_119
  | 120, _ => mtc_120
  | 121, _ => mtc_121
  | 122, _ => mtc_122
  | 123, _ => mtc_123
  | 124, _ => mtc_124
  | 125, _ => mtc_125
  | 126, _ => mtc_126
  | 127, _ => mtc_127
  | 128, _ => mtc_128
  | 129, _ => mtc_129
  | 130, _ => mtc_130
  | 131, _ => mtc_131
  | 132, _ => mtc_132
  | 133, _ => mtc_133
  | 134, _ => mtc_134
  | 135, _ => mtc_135
  | 136, _ => mtc_136
  | 137, _ => mtc_137
  | 138, _ => mtc_138
  | 139, _ => mtc_139
  | 140, _ => mtc_140
  | 141, _ => mtc_141
  | 142, _ => mtc_142
  | 143, _ => mtc_143
  | 144, _ => mtc_144
  | 145, _ => mtc_145
  | 146, _ => mtc_146
  | 147, _ => mtc_147
  | 148, _ => mtc_148
  | 149, _ => mtc_149
  | 150, _ => mtc_150
  | 151, _ => mtc_151
  | 152, _ => mtc_152
  | 153, _ => mtc_153
  | 154, _ => mtc_154
  | 155, _ => mtc_155
  | 156, _ => mtc_156
  | 157, _ => mtc_157
  | 158, _ => mtc_158
  | 159, _ => mtc_159
  | 160, _ => mtc_160
  | 161, _ => mtc_161
  | 162, _ => mtc_162
  | 163, _ => mtc_163
  | 164, _ => mtc_164
  | 165, _ => mtc_165
  | 166, _ => mtc_166
  | 167, _ => mtc_167
  | 168, _ => mtc_168
  | 169, _ => mtc_169
  | 170, _ => mtc_170
  | 171, _ => mtc_171
  | 172, _ => mtc_172
  | 173, _ => mtc_173
  | 174, _ => mtc_174
  | 175, _ => mtc_175
  | 176, _ => mtc_176
  | 177, _ => mtc_177
  | 178, _ => mtc_178
  | 179, _ => mtc_179
  | 180, _ => mtc_180
  | 181, _ => mtc_181
  | 182, _ => mtc_182
  | 183, _ => mtc_183
  | 184, _ => mtc_184
  | 185, _ => mtc_185
  | 186, _ => mtc_186
  | 187, _ => mtc_187
  | 188, _ => mtc_188
  | 189, _ => mtc_189
  | 190, _ => mtc_190
  | 191, _ => mtc_191
  | 192, _ => mtc_192
  | 193, _ => mtc_193
  | 194, _ => mtc_194
  | 195, _ => mtc_195
  | 196, _ => mtc_196
  | 197, _ => mtc_197
  | 198, _ => mtc_198
  | 199, _ => mtc_199
  | 200, _ => mtc_200
  | 201, _ => mtc_201
  | 202, _ => mtc_202
  | 203, _ => mtc_203
  | 204, _ => mtc_204
  | 205, _ => mtc_205
  | 206, _ => mtc_206
  | 207, _ => mtc_207
  | 208, _ => mtc_208
  | 209, _ => mtc_209
  | 210, _ => mtc_210
  | 211, _ => mtc_211
  | 212, _ => mtc_212
  | 213, _ => mtc_213
  | 214, _ => mtc_214
  | 215, _ => mtc_215
  | 216, _ => mtc_216
  | 217, _ => mtc_217
  | 218, _ => mtc_218
  | 219, _ => mtc_219
  | 220, _ => mtc_220
  | 221, _ => mtc_221
  | 222, _ => mtc_222
  | n + 223, h => absurd h (by omega)
set_option maxRecDepth 100000 in
theorem cn_ini : chkL CNM hIni (fun q h => inP h (.initialized q)) = true := by decide +kernel
set_option maxRecDepth 100000 in
theorem mt_misc : MTB.all (fun q => decide (cnm q.1 = q.2.1.cls) && Nat.blt q.1 15 && decide (q.2.1.cls ≠ "java/lang/invoke/MethodHandle") && decide (q.2.1.cls ≠ "java/lang/invoke/VarHandle") && Nat.ble q.2.2.2.1 40) = true := by decide +kernel
set_option maxRecDepth 100000 in
theorem mt_plain : (List.range 224).all (fun j => plainFor (yN j)) = true := by decide +kernel
set_option maxRecDepth 100000 in
theorem fll_ok : chkL FLL hFL (fun q h => inP h (.fieldLink (cnm q.1) q.2.1 ((clC q.2.2.1).2.1 q.2.2.2).1 ((clC q.2.2.1).2.1 q.2.2.2).2.1 ((clC q.2.2.1).2.1 q.2.2.2).2.2.1) && Nat.blt q.2.2.1 10 && Nat.blt q.2.2.2 (clC q.2.2.1).2.2) = true := by decide +kernel
set_option maxRecDepth 100000 in
theorem mll_ok : chkL MLL hML (fun q h => inP h (.methodLink (cnm q.1) q.2.1 (yN q.2.2)) && Nat.blt q.2.2 223) = true := by decide +kernel
set_option maxRecDepth 100000 in
theorem mnl_ok : chkL MNL hMN (fun q h => inA h (.methodLinkNest (cnm q.1) q.2.1 (yN q.2.2) "TurtleBet") && Nat.blt q.2.2 223) = true := by decide +kernel
set_option maxRecDepth 100000 in
theorem cll_ok : chkL CLL hCL (fun q h => inP h (.classLink (cnm q.1) q.2.1 (clC q.2.2).1) && Nat.blt q.2.2 10) = true := by decide +kernel
set_option maxRecDepth 100000 in
theorem csl_ok : chkL CSL hCS (fun q h => inP h (.constant (cnm q.1) q.2.1 q.2.2)) = true := by decide +kernel
set_option maxRecDepth 100000 in
theorem oil_ok : chkL OIL hOI (fun q h => inP h (.methodLink (cnm q.1) q.2 objectInit)) = true := by decide +kernel
set_option maxRecDepth 100000 in
theorem acl_ok : chkL ACL hAC (fun q h => inP h (.methodLink (cnm q.1) q.2 arraycopyName)) = true := by decide +kernel
set_option maxRecDepth 100000 in
theorem vil_ok : chkL VIL hVI (fun j h => inP h (.instanceMethod (yN j)) && Nat.blt j 223) = true := by decide +kernel
set_option maxRecDepth 100000 in
theorem vil_sel : chkL VIL hVS (fun j h => inP h (.selects (yN j).cls (yN j) (yN j))) = true := by decide +kernel
set_option maxRecDepth 100000 in
theorem sil_ok : chkL SIL hSI (fun j h => inP h (.static (yN j)) && Nat.blt j 223) = true := by decide +kernel
set_option maxRecDepth 100000 in
theorem cil_ok : chkL CIL hCI (fun j h => inP h (.instanceMethod (yN j)) && decide ((yN j).name = "<init>") && Nat.blt j 223 && decide (rtN j = none)) = true := by decide +kernel
set_option maxRecDepth 100000 in
theorem misc_ok : chkL [Cond.instanceMethod objectInit, .code objectInit ⟨#[0xb1]⟩ 1 none, .static arraycopyName, .native arraycopyName, .initialized "java/lang/System"] hMisc (fun w h => inP h w) = true := by decide +kernel
def hWs (ci : Nat) : List (Nat × Nat) := match ci with
  | 0 => hW0 | 1 => hW1 | 2 => hW2 | 3 => hW3 | 4 => hW4 | 5 => hW5 | 6 => hW6 | 7 => hW7 | 8 => hW8 | _ => hW9
set_option maxRecDepth 100000 in
theorem cls_ws : (List.range 10).all (fun ci => chkL (u_ws (clC ci).1 (clC ci).2.1 (clC ci).2.2) (hWs ci) (fun w h => inP h w)) = true := by decide +kernel
set_option maxRecDepth 100000 in
theorem cls_ins : chkL (List.range 10) hIns (fun ci h => inP h (.instantiable (clC ci).1 (clC ci).2.2)) = true := by decide +kernel
set_option maxRecDepth 100000 in
theorem cls_ty : (List.range 10).all (fun ci => (List.range (clC ci).2.2).all (fun k => decide (parseFieldDescriptor ((clC ci).2.1 k).2.2.1 = some (tyN ci k)))) = true := by decide +kernel
theorem cls_nm : ∀ ci, ci < 10 → ∀ a, a < (clC ci).2.2 → ∀ b, b < (clC ci).2.2 → a ≠ b → ((clC ci).2.1 a).2.1 ≠ ((clC ci).2.1 b).2.1
  | 0, _ => nmX0 | 1, _ => nmX1 | 2, _ => nmX2 | 3, _ => nmX3 | 4, _ => nmX4 | 5, _ => nmX5 | 6, _ => nmX6 | 7, _ => nmX7 | 8, _ => nmX8 | 9, _ => nmX9
  | n + 10, h => absurd h (by omega)
set_option maxRecDepth 100000 in
theorem arr_ws : chkL [Cond.arrayClass .int, .arrayClass .boolean, .arrayClass .char] hAr (fun w h => inP h w) = true := by decide +kernel
set_option maxRecDepth 100000 in
theorem ovr_ok : chkL [23, 24, 25, 26, 27] hOv (fun t h => inA h (Cond.arrayOver (.object (clC (tagC t)).1))) = true := by decide +kernel
