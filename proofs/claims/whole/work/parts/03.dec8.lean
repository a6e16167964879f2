theorem dL_law_1683 : decode cL_law 1683 = .ok (.ireturn, 1) := by decide +kernel
theorem dL_law_1684 : decode cL_law 1684 = .ok (.goto 1131, 3) := by decide +kernel
theorem dL_law_1687 : decode cL_law 1687 = .ok (.aload_n 1, 1) := by decide +kernel
theorem dL_law_1688 : decode cL_law 1688 = .ok (.aload_n 0, 1) := by decide +kernel
theorem dL_law_1689 : decode cL_law 1689 = .ok (.iload 5, 2) := by decide +kernel
theorem dL_law_1691 : decode cL_law 1691 = .ok (.iconst 1, 1) := by decide +kernel
theorem dL_law_1692 : decode cL_law 1692 = .ok (.iadd, 1) := by decide +kernel
theorem dL_law_1693 : decode cL_law 1693 = .ok (.iaload, 1) := by decide +kernel
theorem dL_law_1694 : decode cL_law 1694 = .ok (.aload_n 3, 1) := by decide +kernel
theorem dL_law_1695 : decode cL_law 1695 = .ok (.invokestatic 250, 3) := by decide +kernel
theorem dL_law_1698 : decode cL_law 1698 = .ok (.istore 6, 2) := by decide +kernel
theorem dL_law_1700 : decode cL_law 1700 = .ok (.aload_n 2, 1) := by decide +kernel
theorem dL_law_1701 : decode cL_law 1701 = .ok (.aload_n 0, 1) := by decide +kernel
theorem dL_law_1702 : decode cL_law 1702 = .ok (.iload 5, 2) := by decide +kernel
theorem dL_law_1704 : decode cL_law 1704 = .ok (.iconst 1, 1) := by decide +kernel
theorem dL_law_1705 : decode cL_law 1705 = .ok (.iadd, 1) := by decide +kernel
theorem dL_law_1706 : decode cL_law 1706 = .ok (.iaload, 1) := by decide +kernel
theorem dL_law_1707 : decode cL_law 1707 = .ok (.invokevirtual 252, 3) := by decide +kernel
theorem dL_law_1710 : decode cL_law 1710 = .ok (.istore 7, 2) := by decide +kernel
theorem dL_law_1712 : decode cL_law 1712 = .ok (.aload_n 2, 1) := by decide +kernel
theorem dL_law_1713 : decode cL_law 1713 = .ok (.invokevirtual 161, 3) := by decide +kernel
theorem dL_law_1716 : decode cL_law 1716 = .ok (.iload 6, 2) := by decide +kernel
theorem dL_law_1718 : decode cL_law 1718 = .ok (.if_icmp .eq 5, 3) := by decide +kernel
theorem dL_law_1721 : decode cL_law 1721 = .ok (.iconst 0, 1) := by decide +kernel
theorem dL_law_1722 : decode cL_law 1722 = .ok (.ireturn, 1) := by decide +kernel
theorem dL_law_1723 : decode cL_law 1723 = .ok (.iload 6, 2) := by decide +kernel
theorem dL_law_1725 : decode cL_law 1725 = .ok (.ifCond .ne 15, 3) := by decide +kernel
theorem dL_law_1728 : decode cL_law 1728 = .ok (.aload_n 3, 1) := by decide +kernel
theorem dL_law_1729 : decode cL_law 1729 = .ok (.iconst 0, 1) := by decide +kernel
theorem dL_law_1730 : decode cL_law 1730 = .ok (.laload, 1) := by decide +kernel
theorem dL_law_1731 : decode cL_law 1731 = .ok (.iload 7, 2) := by decide +kernel
theorem dL_law_1733 : decode cL_law 1733 = .ok (.i2l, 1) := by decide +kernel
theorem dL_law_1734 : decode cL_law 1734 = .ok (.lcmp, 1) := by decide +kernel
theorem dL_law_1735 : decode cL_law 1735 = .ok (.ifCond .eq 5, 3) := by decide +kernel
theorem dL_law_1738 : decode cL_law 1738 = .ok (.iconst 0, 1) := by decide +kernel
theorem dL_law_1739 : decode cL_law 1739 = .ok (.ireturn, 1) := by decide +kernel
theorem dL_law_1740 : decode cL_law 1740 = .ok (.goto 1075, 3) := by decide +kernel
theorem dL_law_1743 : decode cL_law 1743 = .ok (.aload_n 1, 1) := by decide +kernel
theorem dL_law_1744 : decode cL_law 1744 = .ok (.aload_n 3, 1) := by decide +kernel
theorem dL_law_1745 : decode cL_law 1745 = .ok (.invokestatic 253, 3) := by decide +kernel
theorem dL_law_1748 : decode cL_law 1748 = .ok (.istore 6, 2) := by decide +kernel
theorem dL_law_1750 : decode cL_law 1750 = .ok (.aload_n 2, 1) := by decide +kernel
theorem dL_law_1751 : decode cL_law 1751 = .ok (.invokevirtual 256, 3) := by decide +kernel
theorem dL_law_1754 : decode cL_law 1754 = .ok (.istore 7, 2) := by decide +kernel
theorem dL_law_1756 : decode cL_law 1756 = .ok (.aload_n 2, 1) := by decide +kernel
theorem dL_law_1757 : decode cL_law 1757 = .ok (.invokevirtual 161, 3) := by decide +kernel
theorem dL_law_1760 : decode cL_law 1760 = .ok (.iload 6, 2) := by decide +kernel
theorem dL_law_1762 : decode cL_law 1762 = .ok (.if_icmp .eq 5, 3) := by decide +kernel
theorem dL_law_1765 : decode cL_law 1765 = .ok (.iconst 0, 1) := by decide +kernel
theorem dL_law_1766 : decode cL_law 1766 = .ok (.ireturn, 1) := by decide +kernel
theorem dL_law_1767 : decode cL_law 1767 = .ok (.iload 6, 2) := by decide +kernel
theorem dL_law_1769 : decode cL_law 1769 = .ok (.ifCond .ne 15, 3) := by decide +kernel
theorem dL_law_1772 : decode cL_law 1772 = .ok (.aload_n 3, 1) := by decide +kernel
theorem dL_law_1773 : decode cL_law 1773 = .ok (.iconst 0, 1) := by decide +kernel
theorem dL_law_1774 : decode cL_law 1774 = .ok (.laload, 1) := by decide +kernel
theorem dL_law_1775 : decode cL_law 1775 = .ok (.iload 7, 2) := by decide +kernel
theorem dL_law_1777 : decode cL_law 1777 = .ok (.i2l, 1) := by decide +kernel
theorem dL_law_1778 : decode cL_law 1778 = .ok (.lcmp, 1) := by decide +kernel
theorem dL_law_1779 : decode cL_law 1779 = .ok (.ifCond .eq 5, 3) := by decide +kernel
theorem dL_law_1782 : decode cL_law 1782 = .ok (.iconst 0, 1) := by decide +kernel
theorem dL_law_1783 : decode cL_law 1783 = .ok (.ireturn, 1) := by decide +kernel
theorem dL_law_1784 : decode cL_law 1784 = .ok (.goto 1031, 3) := by decide +kernel
theorem dL_law_1787 : decode cL_law 1787 = .ok (.aload_n 1, 1) := by decide +kernel
theorem dL_law_1788 : decode cL_law 1788 = .ok (.aload_n 3, 1) := by decide +kernel
theorem dL_law_1789 : decode cL_law 1789 = .ok (.invokestatic 257, 3) := by decide +kernel
theorem dL_law_1792 : decode cL_law 1792 = .ok (.istore 6, 2) := by decide +kernel
theorem dL_law_1794 : decode cL_law 1794 = .ok (.aload_n 2, 1) := by decide +kernel
theorem dL_law_1795 : decode cL_law 1795 = .ok (.invokevirtual 259, 3) := by decide +kernel
theorem dL_law_1798 : decode cL_law 1798 = .ok (.istore 7, 2) := by decide +kernel
theorem dL_law_1800 : decode cL_law 1800 = .ok (.aload_n 2, 1) := by decide +kernel
theorem dL_law_1801 : decode cL_law 1801 = .ok (.invokevirtual 161, 3) := by decide +kernel
theorem dL_law_1804 : decode cL_law 1804 = .ok (.iload 6, 2) := by decide +kernel
theorem dL_law_1806 : decode cL_law 1806 = .ok (.if_icmp .eq 5, 3) := by decide +kernel
theorem dL_law_1809 : decode cL_law 1809 = .ok (.iconst 0, 1) := by decide +kernel
theorem dL_law_1810 : decode cL_law 1810 = .ok (.ireturn, 1) := by decide +kernel
theorem dL_law_1811 : decode cL_law 1811 = .ok (.iload 6, 2) := by decide +kernel
theorem dL_law_1813 : decode cL_law 1813 = .ok (.ifCond .ne 15, 3) := by decide +kernel
theorem dL_law_1816 : decode cL_law 1816 = .ok (.aload_n 3, 1) := by decide +kernel
theorem dL_law_1817 : decode cL_law 1817 = .ok (.iconst 0, 1) := by decide +kernel
theorem dL_law_1818 : decode cL_law 1818 = .ok (.laload, 1) := by decide +kernel
theorem dL_law_1819 : decode cL_law 1819 = .ok (.iload 7, 2) := by decide +kernel
theorem dL_law_1821 : decode cL_law 1821 = .ok (.i2l, 1) := by decide +kernel
theorem dL_law_1822 : decode cL_law 1822 = .ok (.lcmp, 1) := by decide +kernel
theorem dL_law_1823 : decode cL_law 1823 = .ok (.ifCond .eq 5, 3) := by decide +kernel
theorem dL_law_1826 : decode cL_law 1826 = .ok (.iconst 0, 1) := by decide +kernel
theorem dL_law_1827 : decode cL_law 1827 = .ok (.ireturn, 1) := by decide +kernel
theorem dL_law_1828 : decode cL_law 1828 = .ok (.goto 987, 3) := by decide +kernel
theorem dL_law_1831 : decode cL_law 1831 = .ok (.aload_n 1, 1) := by decide +kernel
theorem dL_law_1832 : decode cL_law 1832 = .ok (.aload_n 0, 1) := by decide +kernel
theorem dL_law_1833 : decode cL_law 1833 = .ok (.iload 5, 2) := by decide +kernel
theorem dL_law_1835 : decode cL_law 1835 = .ok (.iconst 1, 1) := by decide +kernel
theorem dL_law_1836 : decode cL_law 1836 = .ok (.iadd, 1) := by decide +kernel
theorem dL_law_1837 : decode cL_law 1837 = .ok (.iaload, 1) := by decide +kernel
theorem dL_law_1838 : decode cL_law 1838 = .ok (.aload_n 3, 1) := by decide +kernel
theorem dL_law_1839 : decode cL_law 1839 = .ok (.invokestatic 260, 3) := by decide +kernel
theorem dL_law_1842 : decode cL_law 1842 = .ok (.istore 6, 2) := by decide +kernel
theorem dL_law_1844 : decode cL_law 1844 = .ok (.aload_n 2, 1) := by decide +kernel
theorem dL_law_1845 : decode cL_law 1845 = .ok (.aload_n 0, 1) := by decide +kernel
theorem dL_law_1846 : decode cL_law 1846 = .ok (.iload 5, 2) := by decide +kernel
theorem dL_law_1848 : decode cL_law 1848 = .ok (.iconst 1, 1) := by decide +kernel
theorem dL_law_1849 : decode cL_law 1849 = .ok (.iadd, 1) := by decide +kernel
theorem dL_law_1850 : decode cL_law 1850 = .ok (.iaload, 1) := by decide +kernel
theorem dL_law_1851 : decode cL_law 1851 = .ok (.invokevirtual 262, 3) := by decide +kernel
theorem dL_law_1854 : decode cL_law 1854 = .ok (.istore 7, 2) := by decide +kernel
theorem dL_law_1856 : decode cL_law 1856 = .ok (.aload_n 2, 1) := by decide +kernel
theorem dL_law_1857 : decode cL_law 1857 = .ok (.invokevirtual 161, 3) := by decide +kernel
theorem dL_law_1860 : decode cL_law 1860 = .ok (.iload 6, 2) := by decide +kernel
theorem dL_law_1862 : decode cL_law 1862 = .ok (.if_icmp .eq 5, 3) := by decide +kernel
theorem dL_law_1865 : decode cL_law 1865 = .ok (.iconst 0, 1) := by decide +kernel
theorem dL_law_1866 : decode cL_law 1866 = .ok (.ireturn, 1) := by decide +kernel
theorem dL_law_1867 : decode cL_law 1867 = .ok (.iload 6, 2) := by decide +kernel
theorem dL_law_1869 : decode cL_law 1869 = .ok (.ifCond .ne 15, 3) := by decide +kernel
theorem dL_law_1872 : decode cL_law 1872 = .ok (.aload_n 3, 1) := by decide +kernel
theorem dL_law_1873 : decode cL_law 1873 = .ok (.iconst 0, 1) := by decide +kernel
theorem dL_law_1874 : decode cL_law 1874 = .ok (.laload, 1) := by decide +kernel
theorem dL_law_1875 : decode cL_law 1875 = .ok (.iload 7, 2) := by decide +kernel
theorem dL_law_1877 : decode cL_law 1877 = .ok (.i2l, 1) := by decide +kernel
theorem dL_law_1878 : decode cL_law 1878 = .ok (.lcmp, 1) := by decide +kernel
theorem dL_law_1879 : decode cL_law 1879 = .ok (.ifCond .eq 5, 3) := by decide +kernel
theorem dL_law_1882 : decode cL_law 1882 = .ok (.iconst 0, 1) := by decide +kernel
theorem dL_law_1883 : decode cL_law 1883 = .ok (.ireturn, 1) := by decide +kernel
theorem dL_law_1884 : decode cL_law 1884 = .ok (.goto 931, 3) := by decide +kernel
theorem dL_law_1887 : decode cL_law 1887 = .ok (.aload_n 1, 1) := by decide +kernel
theorem dL_law_1888 : decode cL_law 1888 = .ok (.invokevirtual 263, 3) := by decide +kernel
theorem dL_law_1891 : decode cL_law 1891 = .ok (.aload_n 2, 1) := by decide +kernel
theorem dL_law_1892 : decode cL_law 1892 = .ok (.invokevirtual 266, 3) := by decide +kernel
theorem dL_law_1895 : decode cL_law 1895 = .ok (.if_icmp .eq 920, 3) := by decide +kernel
theorem dL_law_1898 : decode cL_law 1898 = .ok (.iconst 0, 1) := by decide +kernel
theorem dL_law_1899 : decode cL_law 1899 = .ok (.ireturn, 1) := by decide +kernel
theorem dL_law_1900 : decode cL_law 1900 = .ok (.aload_n 1, 1) := by decide +kernel
theorem dL_law_1901 : decode cL_law 1901 = .ok (.invokevirtual 267, 3) := by decide +kernel
theorem dL_law_1904 : decode cL_law 1904 = .ok (.aload_n 2, 1) := by decide +kernel
theorem dL_law_1905 : decode cL_law 1905 = .ok (.invokevirtual 270, 3) := by decide +kernel
theorem dL_law_1908 : decode cL_law 1908 = .ok (.if_icmp .eq 907, 3) := by decide +kernel
theorem dL_law_1911 : decode cL_law 1911 = .ok (.iconst 0, 1) := by decide +kernel
theorem dL_law_1912 : decode cL_law 1912 = .ok (.ireturn, 1) := by decide +kernel
theorem dL_law_1913 : decode cL_law 1913 = .ok (.aload_n 1, 1) := by decide +kernel
theorem dL_law_1914 : decode cL_law 1914 = .ok (.invokevirtual 271, 3) := by decide +kernel
theorem dL_law_1917 : decode cL_law 1917 = .ok (.aload_n 2, 1) := by decide +kernel
theorem dL_law_1918 : decode cL_law 1918 = .ok (.invokevirtual 274, 3) := by decide +kernel
theorem dL_law_1921 : decode cL_law 1921 = .ok (.if_icmp .eq 894, 3) := by decide +kernel
theorem dL_law_1924 : decode cL_law 1924 = .ok (.iconst 0, 1) := by decide +kernel
theorem dL_law_1925 : decode cL_law 1925 = .ok (.ireturn, 1) := by decide +kernel
theorem dL_law_1926 : decode cL_law 1926 = .ok (.aload_n 1, 1) := by decide +kernel
theorem dL_law_1927 : decode cL_law 1927 = .ok (.aload_n 0, 1) := by decide +kernel
theorem dL_law_1928 : decode cL_law 1928 = .ok (.iload 5, 2) := by decide +kernel
theorem dL_law_1930 : decode cL_law 1930 = .ok (.iconst 1, 1) := by decide +kernel
theorem dL_law_1931 : decode cL_law 1931 = .ok (.iadd, 1) := by decide +kernel
theorem dL_law_1932 : decode cL_law 1932 = .ok (.iaload, 1) := by decide +kernel
theorem dL_law_1933 : decode cL_law 1933 = .ok (.aload_n 3, 1) := by decide +kernel
theorem dL_law_1934 : decode cL_law 1934 = .ok (.invokestatic 275, 3) := by decide +kernel
theorem dL_law_1937 : decode cL_law 1937 = .ok (.istore 6, 2) := by decide +kernel
theorem dL_law_1939 : decode cL_law 1939 = .ok (.aload_n 2, 1) := by decide +kernel
theorem dL_law_1940 : decode cL_law 1940 = .ok (.aload_n 0, 1) := by decide +kernel
theorem dL_law_1941 : decode cL_law 1941 = .ok (.iload 5, 2) := by decide +kernel
theorem dL_law_1943 : decode cL_law 1943 = .ok (.iconst 1, 1) := by decide +kernel
theorem dL_law_1944 : decode cL_law 1944 = .ok (.iadd, 1) := by decide +kernel
theorem dL_law_1945 : decode cL_law 1945 = .ok (.iaload, 1) := by decide +kernel
theorem dL_law_1946 : decode cL_law 1946 = .ok (.invokevirtual 277, 3) := by decide +kernel
theorem dL_law_1949 : decode cL_law 1949 = .ok (.istore 7, 2) := by decide +kernel
theorem dL_law_1951 : decode cL_law 1951 = .ok (.aload_n 2, 1) := by decide +kernel
theorem dL_law_1952 : decode cL_law 1952 = .ok (.invokevirtual 161, 3) := by decide +kernel
theorem dL_law_1955 : decode cL_law 1955 = .ok (.iload 6, 2) := by decide +kernel
theorem dL_law_1957 : decode cL_law 1957 = .ok (.if_icmp .eq 5, 3) := by decide +kernel
theorem dL_law_1960 : decode cL_law 1960 = .ok (.iconst 0, 1) := by decide +kernel
theorem dL_law_1961 : decode cL_law 1961 = .ok (.ireturn, 1) := by decide +kernel
theorem dL_law_1962 : decode cL_law 1962 = .ok (.iload 6, 2) := by decide +kernel
theorem dL_law_1964 : decode cL_law 1964 = .ok (.ifCond .ne 22, 3) := by decide +kernel
theorem dL_law_1967 : decode cL_law 1967 = .ok (.aload_n 3, 1) := by decide +kernel
theorem dL_law_1968 : decode cL_law 1968 = .ok (.iconst 0, 1) := by decide +kernel
theorem dL_law_1969 : decode cL_law 1969 = .ok (.laload, 1) := by decide +kernel
theorem dL_law_1970 : decode cL_law 1970 = .ok (.iload 7, 2) := by decide +kernel
theorem dL_law_1972 : decode cL_law 1972 = .ok (.ifCond .eq 7, 3) := by decide +kernel
theorem dL_law_1975 : decode cL_law 1975 = .ok (.lconst 1, 1) := by decide +kernel
theorem dL_law_1976 : decode cL_law 1976 = .ok (.goto 4, 3) := by decide +kernel
theorem dL_law_1979 : decode cL_law 1979 = .ok (.lconst 0, 1) := by decide +kernel
theorem dL_law_1980 : decode cL_law 1980 = .ok (.lcmp, 1) := by decide +kernel
theorem dL_law_1981 : decode cL_law 1981 = .ok (.ifCond .eq 5, 3) := by decide +kernel
theorem dL_law_1984 : decode cL_law 1984 = .ok (.iconst 0, 1) := by decide +kernel
theorem dL_law_1985 : decode cL_law 1985 = .ok (.ireturn, 1) := by decide +kernel
theorem dL_law_1986 : decode cL_law 1986 = .ok (.goto 829, 3) := by decide +kernel
theorem dL_law_1989 : decode cL_law 1989 = .ok (.aload_n 1, 1) := by decide +kernel
theorem dL_law_1990 : decode cL_law 1990 = .ok (.aload_n 3, 1) := by decide +kernel
theorem dL_law_1991 : decode cL_law 1991 = .ok (.invokestatic 278, 3) := by decide +kernel
theorem dL_law_1994 : decode cL_law 1994 = .ok (.istore 6, 2) := by decide +kernel
theorem dL_law_1996 : decode cL_law 1996 = .ok (.aload_n 2, 1) := by decide +kernel
theorem dL_law_1997 : decode cL_law 1997 = .ok (.invokevirtual 280, 3) := by decide +kernel
theorem dL_law_2000 : decode cL_law 2000 = .ok (.istore 7, 2) := by decide +kernel
theorem dL_law_2002 : decode cL_law 2002 = .ok (.aload_n 2, 1) := by decide +kernel
theorem dL_law_2003 : decode cL_law 2003 = .ok (.invokevirtual 161, 3) := by decide +kernel
theorem dL_law_2006 : decode cL_law 2006 = .ok (.iload 6, 2) := by decide +kernel
theorem dL_law_2008 : decode cL_law 2008 = .ok (.if_icmp .eq 5, 3) := by decide +kernel
theorem dL_law_2011 : decode cL_law 2011 = .ok (.iconst 0, 1) := by decide +kernel
theorem dL_law_2012 : decode cL_law 2012 = .ok (.ireturn, 1) := by decide +kernel
theorem dL_law_2013 : decode cL_law 2013 = .ok (.iload 6, 2) := by decide +kernel
theorem dL_law_2015 : decode cL_law 2015 = .ok (.ifCond .ne 15, 3) := by decide +kernel
theorem dL_law_2018 : decode cL_law 2018 = .ok (.aload_n 3, 1) := by decide +kernel
theorem dL_law_2019 : decode cL_law 2019 = .ok (.iconst 0, 1) := by decide +kernel
theorem dL_law_2020 : decode cL_law 2020 = .ok (.laload, 1) := by decide +kernel
theorem dL_law_2021 : decode cL_law 2021 = .ok (.iload 7, 2) := by decide +kernel
theorem dL_law_2023 : decode cL_law 2023 = .ok (.i2l, 1) := by decide +kernel
theorem dL_law_2024 : decode cL_law 2024 = .ok (.lcmp, 1) := by decide +kernel
theorem dL_law_2025 : decode cL_law 2025 = .ok (.ifCond .eq 5, 3) := by decide +kernel
theorem dL_law_2028 : decode cL_law 2028 = .ok (.iconst 0, 1) := by decide +kernel
theorem dL_law_2029 : decode cL_law 2029 = .ok (.ireturn, 1) := by decide +kernel
theorem dL_law_2030 : decode cL_law 2030 = .ok (.goto 785, 3) := by decide +kernel
theorem dL_law_2033 : decode cL_law 2033 = .ok (.aload_n 1, 1) := by decide +kernel
theorem dL_law_2034 : decode cL_law 2034 = .ok (.aload_n 0, 1) := by decide +kernel
theorem dL_law_2035 : decode cL_law 2035 = .ok (.iload 5, 2) := by decide +kernel
theorem dL_law_2037 : decode cL_law 2037 = .ok (.iconst 1, 1) := by decide +kernel
theorem dL_law_2038 : decode cL_law 2038 = .ok (.iadd, 1) := by decide +kernel
theorem dL_law_2039 : decode cL_law 2039 = .ok (.iaload, 1) := by decide +kernel
theorem dL_law_2040 : decode cL_law 2040 = .ok (.aload_n 3, 1) := by decide +kernel
theorem dL_law_2041 : decode cL_law 2041 = .ok (.invokestatic 281, 3) := by decide +kernel
theorem dL_law_2044 : decode cL_law 2044 = .ok (.istore 6, 2) := by decide +kernel
theorem dL_law_2046 : decode cL_law 2046 = .ok (.aload_n 2, 1) := by decide +kernel
theorem dL_law_2047 : decode cL_law 2047 = .ok (.aload_n 0, 1) := by decide +kernel
theorem dL_law_2048 : decode cL_law 2048 = .ok (.iload 5, 2) := by decide +kernel
theorem dL_law_2050 : decode cL_law 2050 = .ok (.iconst 1, 1) := by decide +kernel
theorem dL_law_2051 : decode cL_law 2051 = .ok (.iadd, 1) := by decide +kernel
theorem dL_law_2052 : decode cL_law 2052 = .ok (.iaload, 1) := by decide +kernel
theorem dL_law_2053 : decode cL_law 2053 = .ok (.invokevirtual 283, 3) := by decide +kernel
theorem dL_law_2056 : decode cL_law 2056 = .ok (.istore 7, 2) := by decide +kernel
theorem dL_law_2058 : decode cL_law 2058 = .ok (.aload_n 2, 1) := by decide +kernel
theorem dL_law_2059 : decode cL_law 2059 = .ok (.invokevirtual 161, 3) := by decide +kernel
theorem dL_law_2062 : decode cL_law 2062 = .ok (.iload 6, 2) := by decide +kernel
theorem dL_law_2064 : decode cL_law 2064 = .ok (.if_icmp .eq 5, 3) := by decide +kernel
theorem dL_law_2067 : decode cL_law 2067 = .ok (.iconst 0, 1) := by decide +kernel
theorem dL_law_2068 : decode cL_law 2068 = .ok (.ireturn, 1) := by decide +kernel
theorem dL_law_2069 : decode cL_law 2069 = .ok (.iload 6, 2) := by decide +kernel
theorem dL_law_2071 : decode cL_law 2071 = .ok (.ifCond .ne 15, 3) := by decide +kernel
theorem dL_law_2074 : decode cL_law 2074 = .ok (.aload_n 3, 1) := by decide +kernel
theorem dL_law_2075 : decode cL_law 2075 = .ok (.iconst 0, 1) := by decide +kernel
theorem dL_law_2076 : decode cL_law 2076 = .ok (.laload, 1) := by decide +kernel
theorem dL_law_2077 : decode cL_law 2077 = .ok (.iload 7, 2) := by decide +kernel
theorem dL_law_2079 : decode cL_law 2079 = .ok (.i2l, 1) := by decide +kernel
theorem dL_law_2080 : decode cL_law 2080 = .ok (.lcmp, 1) := by decide +kernel
theorem dL_law_2081 : decode cL_law 2081 = .ok (.ifCond .eq 5, 3) := by decide +kernel
theorem dL_law_2084 : decode cL_law 2084 = .ok (.iconst 0, 1) := by decide +kernel
theorem dL_law_2085 : decode cL_law 2085 = .ok (.ireturn, 1) := by decide +kernel
theorem dL_law_2086 : decode cL_law 2086 = .ok (.goto 729, 3) := by decide +kernel
theorem dL_law_2089 : decode cL_law 2089 = .ok (.aload_n 1, 1) := by decide +kernel
theorem dL_law_2090 : decode cL_law 2090 = .ok (.invokevirtual 284, 3) := by decide +kernel
theorem dL_law_2093 : decode cL_law 2093 = .ok (.aload_n 2, 1) := by decide +kernel
theorem dL_law_2094 : decode cL_law 2094 = .ok (.invokevirtual 288, 3) := by decide +kernel
theorem dL_law_2097 : decode cL_law 2097 = .ok (.if_icmp .eq 718, 3) := by decide +kernel
theorem dL_law_2100 : decode cL_law 2100 = .ok (.iconst 0, 1) := by decide +kernel
theorem dL_law_2101 : decode cL_law 2101 = .ok (.ireturn, 1) := by decide +kernel
theorem dL_law_2102 : decode cL_law 2102 = .ok (.aload_n 1, 1) := by decide +kernel
theorem dL_law_2103 : decode cL_law 2103 = .ok (.invokevirtual 289, 3) := by decide +kernel
theorem dL_law_2106 : decode cL_law 2106 = .ok (.aload_n 2, 1) := by decide +kernel
theorem dL_law_2107 : decode cL_law 2107 = .ok (.invokevirtual 292, 3) := by decide +kernel
theorem dL_law_2110 : decode cL_law 2110 = .ok (.if_icmp .eq 705, 3) := by decide +kernel
theorem dL_law_2113 : decode cL_law 2113 = .ok (.iconst 0, 1) := by decide +kernel
theorem dL_law_2114 : decode cL_law 2114 = .ok (.ireturn, 1) := by decide +kernel
theorem dL_law_2115 : decode cL_law 2115 = .ok (.aload_n 1, 1) := by decide +kernel
theorem dL_law_2116 : decode cL_law 2116 = .ok (.invokevirtual 293, 3) := by decide +kernel
theorem dL_law_2119 : decode cL_law 2119 = .ok (.aload_n 2, 1) := by decide +kernel
theorem dL_law_2120 : decode cL_law 2120 = .ok (.invokevirtual 296, 3) := by decide +kernel
theorem dL_law_2123 : decode cL_law 2123 = .ok (.if_icmp .eq 692, 3) := by decide +kernel
theorem dL_law_2126 : decode cL_law 2126 = .ok (.iconst 0, 1) := by decide +kernel
theorem dL_law_2127 : decode cL_law 2127 = .ok (.ireturn, 1) := by decide +kernel
theorem dL_law_2128 : decode cL_law 2128 = .ok (.aload_n 1, 1) := by decide +kernel
theorem dL_law_2129 : decode cL_law 2129 = .ok (.invokevirtual 297, 3) := by decide +kernel
theorem dL_law_2132 : decode cL_law 2132 = .ok (.aload_n 2, 1) := by decide +kernel
theorem dL_law_2133 : decode cL_law 2133 = .ok (.invokevirtual 300, 3) := by decide +kernel
theorem dL_law_2136 : decode cL_law 2136 = .ok (.if_icmp .eq 679, 3) := by decide +kernel
theorem dL_law_2139 : decode cL_law 2139 = .ok (.iconst 0, 1) := by decide +kernel
theorem dL_law_2140 : decode cL_law 2140 = .ok (.ireturn, 1) := by decide +kernel
theorem dL_law_2141 : decode cL_law 2141 = .ok (.aload_n 1, 1) := by decide +kernel
theorem dL_law_2142 : decode cL_law 2142 = .ok (.invokevirtual 301, 3) := by decide +kernel
theorem dL_law_2145 : decode cL_law 2145 = .ok (.aload_n 2, 1) := by decide +kernel
theorem dL_law_2146 : decode cL_law 2146 = .ok (.invokevirtual 304, 3) := by decide +kernel
theorem dL_law_2149 : decode cL_law 2149 = .ok (.if_icmp .eq 666, 3) := by decide +kernel
theorem dL_law_2152 : decode cL_law 2152 = .ok (.iconst 0, 1) := by decide +kernel
theorem dL_law_2153 : decode cL_law 2153 = .ok (.ireturn, 1) := by decide +kernel
theorem dL_law_2154 : decode cL_law 2154 = .ok (.aload_n 1, 1) := by decide +kernel
theorem dL_law_2155 : decode cL_law 2155 = .ok (.invokevirtual 305, 3) := by decide +kernel
theorem dL_law_2158 : decode cL_law 2158 = .ok (.aload_n 2, 1) := by decide +kernel
theorem dL_law_2159 : decode cL_law 2159 = .ok (.invokevirtual 308, 3) := by decide +kernel
theorem dL_law_2162 : decode cL_law 2162 = .ok (.if_icmp .eq 653, 3) := by decide +kernel
theorem dL_law_2165 : decode cL_law 2165 = .ok (.iconst 0, 1) := by decide +kernel
theorem dL_law_2166 : decode cL_law 2166 = .ok (.ireturn, 1) := by decide +kernel
theorem dL_law_2167 : decode cL_law 2167 = .ok (.aload_n 1, 1) := by decide +kernel
theorem dL_law_2168 : decode cL_law 2168 = .ok (.invokevirtual 309, 3) := by decide +kernel
theorem dL_law_2171 : decode cL_law 2171 = .ok (.aload_n 2, 1) := by decide +kernel
theorem dL_law_2172 : decode cL_law 2172 = .ok (.invokevirtual 312, 3) := by decide +kernel
theorem dL_law_2175 : decode cL_law 2175 = .ok (.if_icmp .eq 640, 3) := by decide +kernel
theorem dL_law_2178 : decode cL_law 2178 = .ok (.iconst 0, 1) := by decide +kernel
theorem dL_law_2179 : decode cL_law 2179 = .ok (.ireturn, 1) := by decide +kernel
theorem dL_law_2180 : decode cL_law 2180 = .ok (.aload_n 1, 1) := by decide +kernel
theorem dL_law_2181 : decode cL_law 2181 = .ok (.aload 4, 2) := by decide +kernel
theorem dL_law_2183 : decode cL_law 2183 = .ok (.invokestatic 313, 3) := by decide +kernel
theorem dL_law_2186 : decode cL_law 2186 = .ok (.istore 6, 2) := by decide +kernel
theorem dL_law_2188 : decode cL_law 2188 = .ok (.aload_n 2, 1) := by decide +kernel
theorem dL_law_2189 : decode cL_law 2189 = .ok (.invokevirtual 316, 3) := by decide +kernel
theorem dL_law_2192 : decode cL_law 2192 = .ok (.dstore 7, 2) := by decide +kernel
theorem dL_law_2194 : decode cL_law 2194 = .ok (.aload_n 2, 1) := by decide +kernel
theorem dL_law_2195 : decode cL_law 2195 = .ok (.invokevirtual 161, 3) := by decide +kernel
theorem dL_law_2198 : decode cL_law 2198 = .ok (.iload 6, 2) := by decide +kernel
theorem dL_law_2200 : decode cL_law 2200 = .ok (.if_icmp .eq 5, 3) := by decide +kernel
theorem dL_law_2203 : decode cL_law 2203 = .ok (.iconst 0, 1) := by decide +kernel
theorem dL_law_2204 : decode cL_law 2204 = .ok (.ireturn, 1) := by decide +kernel
theorem dL_law_2205 : decode cL_law 2205 = .ok (.iload 6, 2) := by decide +kernel
theorem dL_law_2207 : decode cL_law 2207 = .ok (.ifCond .ne 35, 3) := by decide +kernel
theorem dL_law_2210 : decode cL_law 2210 = .ok (.aload 4, 2) := by decide +kernel
theorem dL_law_2212 : decode cL_law 2212 = .ok (.iconst 0, 1) := by decide +kernel
theorem dL_law_2213 : decode cL_law 2213 = .ok (.daload, 1) := by decide +kernel
theorem dL_law_2214 : decode cL_law 2214 = .ok (.dload 7, 2) := by decide +kernel
theorem dL_law_2216 : decode cL_law 2216 = .ok (.dcmp .l, 1) := by decide +kernel
theorem dL_law_2217 : decode cL_law 2217 = .ok (.ifCond .eq 25, 3) := by decide +kernel
theorem dL_law_2220 : decode cL_law 2220 = .ok (.aload 4, 2) := by decide +kernel
theorem dL_law_2222 : decode cL_law 2222 = .ok (.iconst 0, 1) := by decide +kernel
theorem dL_law_2223 : decode cL_law 2223 = .ok (.daload, 1) := by decide +kernel
theorem dL_law_2224 : decode cL_law 2224 = .ok (.aload 4, 2) := by decide +kernel
theorem dL_law_2226 : decode cL_law 2226 = .ok (.iconst 0, 1) := by decide +kernel
theorem dL_law_2227 : decode cL_law 2227 = .ok (.daload, 1) := by decide +kernel
theorem dL_law_2228 : decode cL_law 2228 = .ok (.dcmp .l, 1) := by decide +kernel
theorem dL_law_2229 : decode cL_law 2229 = .ok (.ifCond .eq 11, 3) := by decide +kernel
theorem dL_law_2232 : decode cL_law 2232 = .ok (.dload 7, 2) := by decide +kernel
theorem dL_law_2234 : decode cL_law 2234 = .ok (.dload 7, 2) := by decide +kernel
theorem dL_law_2236 : decode cL_law 2236 = .ok (.dcmp .l, 1) := by decide +kernel
theorem dL_law_2237 : decode cL_law 2237 = .ok (.ifCond .ne 5, 3) := by decide +kernel
theorem dL_law_2240 : decode cL_law 2240 = .ok (.iconst 0, 1) := by decide +kernel
theorem dL_law_2241 : decode cL_law 2241 = .ok (.ireturn, 1) := by decide +kernel
theorem dL_law_2242 : decode cL_law 2242 = .ok (.goto 573, 3) := by decide +kernel
theorem dL_law_2245 : decode cL_law 2245 = .ok (.aload_n 1, 1) := by decide +kernel
theorem dL_law_2246 : decode cL_law 2246 = .ok (.aload 4, 2) := by decide +kernel
theorem dL_law_2248 : decode cL_law 2248 = .ok (.invokestatic 317, 3) := by decide +kernel
theorem dL_law_2251 : decode cL_law 2251 = .ok (.istore 6, 2) := by decide +kernel
theorem dL_law_2253 : decode cL_law 2253 = .ok (.aload_n 2, 1) := by decide +kernel
theorem dL_law_2254 : decode cL_law 2254 = .ok (.invokevirtual 319, 3) := by decide +kernel
theorem dL_law_2257 : decode cL_law 2257 = .ok (.fstore 7, 2) := by decide +kernel
theorem dL_law_2259 : decode cL_law 2259 = .ok (.aload_n 2, 1) := by decide +kernel
theorem dL_law_2260 : decode cL_law 2260 = .ok (.invokevirtual 161, 3) := by decide +kernel
theorem dL_law_2263 : decode cL_law 2263 = .ok (.iload 6, 2) := by decide +kernel
theorem dL_law_2265 : decode cL_law 2265 = .ok (.if_icmp .eq 5, 3) := by decide +kernel
theorem dL_law_2268 : decode cL_law 2268 = .ok (.iconst 0, 1) := by decide +kernel
theorem dL_law_2269 : decode cL_law 2269 = .ok (.ireturn, 1) := by decide +kernel
theorem dL_law_2270 : decode cL_law 2270 = .ok (.iload 6, 2) := by decide +kernel
theorem dL_law_2272 : decode cL_law 2272 = .ok (.ifCond .ne 36, 3) := by decide +kernel
theorem dL_law_2275 : decode cL_law 2275 = .ok (.aload 4, 2) := by decide +kernel
theorem dL_law_2277 : decode cL_law 2277 = .ok (.iconst 0, 1) := by decide +kernel
theorem dL_law_2278 : decode cL_law 2278 = .ok (.daload, 1) := by decide +kernel
theorem dL_law_2279 : decode cL_law 2279 = .ok (.fload 7, 2) := by decide +kernel
theorem dL_law_2281 : decode cL_law 2281 = .ok (.f2d, 1) := by decide +kernel
theorem dL_law_2282 : decode cL_law 2282 = .ok (.dcmp .l, 1) := by decide +kernel
theorem dL_law_2283 : decode cL_law 2283 = .ok (.ifCond .eq 25, 3) := by decide +kernel
theorem dL_law_2286 : decode cL_law 2286 = .ok (.aload 4, 2) := by decide +kernel
theorem dL_law_2288 : decode cL_law 2288 = .ok (.iconst 0, 1) := by decide +kernel
theorem dL_law_2289 : decode cL_law 2289 = .ok (.daload, 1) := by decide +kernel
theorem dL_law_2290 : decode cL_law 2290 = .ok (.aload 4, 2) := by decide +kernel
theorem dL_law_2292 : decode cL_law 2292 = .ok (.iconst 0, 1) := by decide +kernel
theorem dL_law_2293 : decode cL_law 2293 = .ok (.daload, 1) := by decide +kernel
theorem dL_law_2294 : decode cL_law 2294 = .ok (.dcmp .l, 1) := by decide +kernel
theorem dL_law_2295 : decode cL_law 2295 = .ok (.ifCond .eq 11, 3) := by decide +kernel
theorem dL_law_2298 : decode cL_law 2298 = .ok (.fload 7, 2) := by decide +kernel
theorem dL_law_2300 : decode cL_law 2300 = .ok (.fload 7, 2) := by decide +kernel
theorem dL_law_2302 : decode cL_law 2302 = .ok (.fcmp .l, 1) := by decide +kernel
theorem dL_law_2303 : decode cL_law 2303 = .ok (.ifCond .ne 5, 3) := by decide +kernel
theorem dL_law_2306 : decode cL_law 2306 = .ok (.iconst 0, 1) := by decide +kernel
theorem dL_law_2307 : decode cL_law 2307 = .ok (.ireturn, 1) := by decide +kernel
theorem dL_law_2308 : decode cL_law 2308 = .ok (.goto 507, 3) := by decide +kernel
theorem dL_law_2311 : decode cL_law 2311 = .ok (.aload_n 1, 1) := by decide +kernel
theorem dL_law_2312 : decode cL_law 2312 = .ok (.aload_n 0, 1) := by decide +kernel
theorem dL_law_2313 : decode cL_law 2313 = .ok (.iload 5, 2) := by decide +kernel
theorem dL_law_2315 : decode cL_law 2315 = .ok (.iconst 1, 1) := by decide +kernel
theorem dL_law_2316 : decode cL_law 2316 = .ok (.iadd, 1) := by decide +kernel
theorem dL_law_2317 : decode cL_law 2317 = .ok (.iaload, 1) := by decide +kernel
theorem dL_law_2318 : decode cL_law 2318 = .ok (.i2c, 1) := by decide +kernel
theorem dL_law_2319 : decode cL_law 2319 = .ok (.aload_n 3, 1) := by decide +kernel
theorem dL_law_2320 : decode cL_law 2320 = .ok (.invokestatic 320, 3) := by decide +kernel
theorem dL_law_2323 : decode cL_law 2323 = .ok (.istore 6, 2) := by decide +kernel
theorem dL_law_2325 : decode cL_law 2325 = .ok (.aload_n 2, 1) := by decide +kernel
theorem dL_law_2326 : decode cL_law 2326 = .ok (.aload_n 0, 1) := by decide +kernel
theorem dL_law_2327 : decode cL_law 2327 = .ok (.iload 5, 2) := by decide +kernel
theorem dL_law_2329 : decode cL_law 2329 = .ok (.iconst 1, 1) := by decide +kernel
theorem dL_law_2330 : decode cL_law 2330 = .ok (.iadd, 1) := by decide +kernel
theorem dL_law_2331 : decode cL_law 2331 = .ok (.iaload, 1) := by decide +kernel
theorem dL_law_2332 : decode cL_law 2332 = .ok (.i2c, 1) := by decide +kernel
theorem dL_law_2333 : decode cL_law 2333 = .ok (.invokevirtual 323, 3) := by decide +kernel
theorem dL_law_2336 : decode cL_law 2336 = .ok (.istore 7, 2) := by decide +kernel
theorem dL_law_2338 : decode cL_law 2338 = .ok (.aload_n 2, 1) := by decide +kernel
theorem dL_law_2339 : decode cL_law 2339 = .ok (.invokevirtual 161, 3) := by decide +kernel
theorem dL_law_2342 : decode cL_law 2342 = .ok (.iload 6, 2) := by decide +kernel
theorem dL_law_2344 : decode cL_law 2344 = .ok (.if_icmp .eq 5, 3) := by decide +kernel
theorem dL_law_2347 : decode cL_law 2347 = .ok (.iconst 0, 1) := by decide +kernel
theorem dL_law_2348 : decode cL_law 2348 = .ok (.ireturn, 1) := by decide +kernel
theorem dL_law_2349 : decode cL_law 2349 = .ok (.iload 6, 2) := by decide +kernel
theorem dL_law_2351 : decode cL_law 2351 = .ok (.ifCond .ne 15, 3) := by decide +kernel
theorem dL_law_2354 : decode cL_law 2354 = .ok (.aload_n 3, 1) := by decide +kernel
theorem dL_law_2355 : decode cL_law 2355 = .ok (.iconst 0, 1) := by decide +kernel
theorem dL_law_2356 : decode cL_law 2356 = .ok (.laload, 1) := by decide +kernel
theorem dL_law_2357 : decode cL_law 2357 = .ok (.iload 7, 2) := by decide +kernel
theorem dL_law_2359 : decode cL_law 2359 = .ok (.i2l, 1) := by decide +kernel
theorem dL_law_2360 : decode cL_law 2360 = .ok (.lcmp, 1) := by decide +kernel
theorem dL_law_2361 : decode cL_law 2361 = .ok (.ifCond .eq 5, 3) := by decide +kernel
theorem dL_law_2364 : decode cL_law 2364 = .ok (.iconst 0, 1) := by decide +kernel
theorem dL_law_2365 : decode cL_law 2365 = .ok (.ireturn, 1) := by decide +kernel
theorem dL_law_2366 : decode cL_law 2366 = .ok (.goto 449, 3) := by decide +kernel
theorem dL_law_2369 : decode cL_law 2369 = .ok (.aload_n 1, 1) := by decide +kernel
theorem dL_law_2370 : decode cL_law 2370 = .ok (.aload_n 3, 1) := by decide +kernel
theorem dL_law_2371 : decode cL_law 2371 = .ok (.invokestatic 324, 3) := by decide +kernel
theorem dL_law_2374 : decode cL_law 2374 = .ok (.istore 6, 2) := by decide +kernel
theorem dL_law_2376 : decode cL_law 2376 = .ok (.aload_n 2, 1) := by decide +kernel
theorem dL_law_2377 : decode cL_law 2377 = .ok (.invokevirtual 326, 3) := by decide +kernel
theorem dL_law_2380 : decode cL_law 2380 = .ok (.istore 7, 2) := by decide +kernel
theorem dL_law_2382 : decode cL_law 2382 = .ok (.aload_n 2, 1) := by decide +kernel
theorem dL_law_2383 : decode cL_law 2383 = .ok (.invokevirtual 161, 3) := by decide +kernel
theorem dL_law_2386 : decode cL_law 2386 = .ok (.iload 6, 2) := by decide +kernel
theorem dL_law_2388 : decode cL_law 2388 = .ok (.if_icmp .eq 5, 3) := by decide +kernel
theorem dL_law_2391 : decode cL_law 2391 = .ok (.iconst 0, 1) := by decide +kernel
theorem dL_law_2392 : decode cL_law 2392 = .ok (.ireturn, 1) := by decide +kernel
theorem dL_law_2393 : decode cL_law 2393 = .ok (.iload 6, 2) := by decide +kernel
theorem dL_law_2395 : decode cL_law 2395 = .ok (.ifCond .ne 15, 3) := by decide +kernel
theorem dL_law_2398 : decode cL_law 2398 = .ok (.aload_n 3, 1) := by decide +kernel
theorem dL_law_2399 : decode cL_law 2399 = .ok (.iconst 0, 1) := by decide +kernel
theorem dL_law_2400 : decode cL_law 2400 = .ok (.laload, 1) := by decide +kernel
theorem dL_law_2401 : decode cL_law 2401 = .ok (.iload 7, 2) := by decide +kernel
theorem dL_law_2403 : decode cL_law 2403 = .ok (.i2l, 1) := by decide +kernel
theorem dL_law_2404 : decode cL_law 2404 = .ok (.lcmp, 1) := by decide +kernel
theorem dL_law_2405 : decode cL_law 2405 = .ok (.ifCond .eq 5, 3) := by decide +kernel
theorem dL_law_2408 : decode cL_law 2408 = .ok (.iconst 0, 1) := by decide +kernel
theorem dL_law_2409 : decode cL_law 2409 = .ok (.ireturn, 1) := by decide +kernel
theorem dL_law_2410 : decode cL_law 2410 = .ok (.goto 405, 3) := by decide +kernel
theorem dL_law_2413 : decode cL_law 2413 = .ok (.aload_n 1, 1) := by decide +kernel
theorem dL_law_2414 : decode cL_law 2414 = .ok (.aload_n 3, 1) := by decide +kernel
theorem dL_law_2415 : decode cL_law 2415 = .ok (.invokestatic 327, 3) := by decide +kernel
theorem dL_law_2418 : decode cL_law 2418 = .ok (.istore 6, 2) := by decide +kernel
theorem dL_law_2420 : decode cL_law 2420 = .ok (.aload_n 2, 1) := by decide +kernel
theorem dL_law_2421 : decode cL_law 2421 = .ok (.invokevirtual 329, 3) := by decide +kernel
theorem dL_law_2424 : decode cL_law 2424 = .ok (.istore 7, 2) := by decide +kernel
theorem dL_law_2426 : decode cL_law 2426 = .ok (.aload_n 2, 1) := by decide +kernel
theorem dL_law_2427 : decode cL_law 2427 = .ok (.invokevirtual 161, 3) := by decide +kernel
theorem dL_law_2430 : decode cL_law 2430 = .ok (.iload 6, 2) := by decide +kernel
theorem dL_law_2432 : decode cL_law 2432 = .ok (.if_icmp .eq 5, 3) := by decide +kernel
theorem dL_law_2435 : decode cL_law 2435 = .ok (.iconst 0, 1) := by decide +kernel
theorem dL_law_2436 : decode cL_law 2436 = .ok (.ireturn, 1) := by decide +kernel
theorem dL_law_2437 : decode cL_law 2437 = .ok (.iload 6, 2) := by decide +kernel
theorem dL_law_2439 : decode cL_law 2439 = .ok (.ifCond .ne 15, 3) := by decide +kernel
theorem dL_law_2442 : decode cL_law 2442 = .ok (.aload_n 3, 1) := by decide +kernel
theorem dL_law_2443 : decode cL_law 2443 = .ok (.iconst 0, 1) := by decide +kernel
theorem dL_law_2444 : decode cL_law 2444 = .ok (.laload, 1) := by decide +kernel
theorem dL_law_2445 : decode cL_law 2445 = .ok (.iload 7, 2) := by decide +kernel
theorem dL_law_2447 : decode cL_law 2447 = .ok (.i2l, 1) := by decide +kernel
theorem dL_law_2448 : decode cL_law 2448 = .ok (.lcmp, 1) := by decide +kernel
theorem dL_law_2449 : decode cL_law 2449 = .ok (.ifCond .eq 5, 3) := by decide +kernel
theorem dL_law_2452 : decode cL_law 2452 = .ok (.iconst 0, 1) := by decide +kernel
theorem dL_law_2453 : decode cL_law 2453 = .ok (.ireturn, 1) := by decide +kernel
theorem dL_law_2454 : decode cL_law 2454 = .ok (.goto 361, 3) := by decide +kernel
theorem dL_law_2457 : decode cL_law 2457 = .ok (.aload_n 1, 1) := by decide +kernel
theorem dL_law_2458 : decode cL_law 2458 = .ok (.aload_n 0, 1) := by decide +kernel
theorem dL_law_2459 : decode cL_law 2459 = .ok (.iload 5, 2) := by decide +kernel
theorem dL_law_2461 : decode cL_law 2461 = .ok (.iconst 1, 1) := by decide +kernel
theorem dL_law_2462 : decode cL_law 2462 = .ok (.iadd, 1) := by decide +kernel
theorem dL_law_2463 : decode cL_law 2463 = .ok (.iaload, 1) := by decide +kernel
theorem dL_law_2464 : decode cL_law 2464 = .ok (.aload_n 3, 1) := by decide +kernel
theorem dL_law_2465 : decode cL_law 2465 = .ok (.invokestatic 330, 3) := by decide +kernel
theorem dL_law_2468 : decode cL_law 2468 = .ok (.istore 6, 2) := by decide +kernel
theorem dL_law_2470 : decode cL_law 2470 = .ok (.aload_n 2, 1) := by decide +kernel
theorem dL_law_2471 : decode cL_law 2471 = .ok (.aload_n 0, 1) := by decide +kernel
theorem dL_law_2472 : decode cL_law 2472 = .ok (.iload 5, 2) := by decide +kernel
theorem dL_law_2474 : decode cL_law 2474 = .ok (.iconst 1, 1) := by decide +kernel
theorem dL_law_2475 : decode cL_law 2475 = .ok (.iadd, 1) := by decide +kernel
theorem dL_law_2476 : decode cL_law 2476 = .ok (.iaload, 1) := by decide +kernel
theorem dL_law_2477 : decode cL_law 2477 = .ok (.invokevirtual 332, 3) := by decide +kernel
theorem dL_law_2480 : decode cL_law 2480 = .ok (.istore 7, 2) := by decide +kernel
theorem dL_law_2482 : decode cL_law 2482 = .ok (.aload_n 2, 1) := by decide +kernel
theorem dL_law_2483 : decode cL_law 2483 = .ok (.invokevirtual 161, 3) := by decide +kernel
theorem dL_law_2486 : decode cL_law 2486 = .ok (.iload 6, 2) := by decide +kernel
theorem dL_law_2488 : decode cL_law 2488 = .ok (.if_icmp .eq 5, 3) := by decide +kernel
theorem dL_law_2491 : decode cL_law 2491 = .ok (.iconst 0, 1) := by decide +kernel
theorem dL_law_2492 : decode cL_law 2492 = .ok (.ireturn, 1) := by decide +kernel
theorem dL_law_2493 : decode cL_law 2493 = .ok (.iload 6, 2) := by decide +kernel
theorem dL_law_2495 : decode cL_law 2495 = .ok (.ifCond .ne 15, 3) := by decide +kernel
theorem dL_law_2498 : decode cL_law 2498 = .ok (.aload_n 3, 1) := by decide +kernel
theorem dL_law_2499 : decode cL_law 2499 = .ok (.iconst 0, 1) := by decide +kernel
theorem dL_law_2500 : decode cL_law 2500 = .ok (.laload, 1) := by decide +kernel
theorem dL_law_2501 : decode cL_law 2501 = .ok (.iload 7, 2) := by decide +kernel
theorem dL_law_2503 : decode cL_law 2503 = .ok (.i2l, 1) := by decide +kernel
theorem dL_law_2504 : decode cL_law 2504 = .ok (.lcmp, 1) := by decide +kernel
theorem dL_law_2505 : decode cL_law 2505 = .ok (.ifCond .eq 5, 3) := by decide +kernel
theorem dL_law_2508 : decode cL_law 2508 = .ok (.iconst 0, 1) := by decide +kernel
theorem dL_law_2509 : decode cL_law 2509 = .ok (.ireturn, 1) := by decide +kernel
theorem dL_law_2510 : decode cL_law 2510 = .ok (.goto 305, 3) := by decide +kernel
theorem dL_law_2513 : decode cL_law 2513 = .ok (.aload_n 1, 1) := by decide +kernel
theorem dL_law_2514 : decode cL_law 2514 = .ok (.aload_n 0, 1) := by decide +kernel
theorem dL_law_2515 : decode cL_law 2515 = .ok (.iload 5, 2) := by decide +kernel
theorem dL_law_2517 : decode cL_law 2517 = .ok (.iconst 1, 1) := by decide +kernel
theorem dL_law_2518 : decode cL_law 2518 = .ok (.iadd, 1) := by decide +kernel
theorem dL_law_2519 : decode cL_law 2519 = .ok (.iaload, 1) := by decide +kernel
theorem dL_law_2520 : decode cL_law 2520 = .ok (.aload_n 3, 1) := by decide +kernel
theorem dL_law_2521 : decode cL_law 2521 = .ok (.invokestatic 333, 3) := by decide +kernel
theorem dL_law_2524 : decode cL_law 2524 = .ok (.istore 6, 2) := by decide +kernel
theorem dL_law_2526 : decode cL_law 2526 = .ok (.aload_n 2, 1) := by decide +kernel
theorem dL_law_2527 : decode cL_law 2527 = .ok (.aload_n 0, 1) := by decide +kernel
theorem dL_law_2528 : decode cL_law 2528 = .ok (.iload 5, 2) := by decide +kernel
theorem dL_law_2530 : decode cL_law 2530 = .ok (.iconst 1, 1) := by decide +kernel
theorem dL_law_2531 : decode cL_law 2531 = .ok (.iadd, 1) := by decide +kernel
theorem dL_law_2532 : decode cL_law 2532 = .ok (.iaload, 1) := by decide +kernel
theorem dL_law_2533 : decode cL_law 2533 = .ok (.invokevirtual 335, 3) := by decide +kernel
theorem dL_law_2536 : decode cL_law 2536 = .ok (.istore 7, 2) := by decide +kernel
theorem dL_law_2538 : decode cL_law 2538 = .ok (.aload_n 2, 1) := by decide +kernel
theorem dL_law_2539 : decode cL_law 2539 = .ok (.invokevirtual 161, 3) := by decide +kernel
theorem dL_law_2542 : decode cL_law 2542 = .ok (.iload 6, 2) := by decide +kernel
theorem dL_law_2544 : decode cL_law 2544 = .ok (.if_icmp .eq 5, 3) := by decide +kernel
theorem dL_law_2547 : decode cL_law 2547 = .ok (.iconst 0, 1) := by decide +kernel
theorem dL_law_2548 : decode cL_law 2548 = .ok (.ireturn, 1) := by decide +kernel
theorem dL_law_2549 : decode cL_law 2549 = .ok (.iload 6, 2) := by decide +kernel
theorem dL_law_2551 : decode cL_law 2551 = .ok (.ifCond .ne 15, 3) := by decide +kernel
theorem dL_law_2554 : decode cL_law 2554 = .ok (.aload_n 3, 1) := by decide +kernel
theorem dL_law_2555 : decode cL_law 2555 = .ok (.iconst 0, 1) := by decide +kernel
theorem dL_law_2556 : decode cL_law 2556 = .ok (.laload, 1) := by decide +kernel
theorem dL_law_2557 : decode cL_law 2557 = .ok (.iload 7, 2) := by decide +kernel
theorem dL_law_2559 : decode cL_law 2559 = .ok (.i2l, 1) := by decide +kernel
theorem dL_law_2560 : decode cL_law 2560 = .ok (.lcmp, 1) := by decide +kernel
theorem dL_law_2561 : decode cL_law 2561 = .ok (.ifCond .eq 5, 3) := by decide +kernel
theorem dL_law_2564 : decode cL_law 2564 = .ok (.iconst 0, 1) := by decide +kernel
theorem dL_law_2565 : decode cL_law 2565 = .ok (.ireturn, 1) := by decide +kernel
theorem dL_law_2566 : decode cL_law 2566 = .ok (.goto 249, 3) := by decide +kernel
theorem dL_law_2569 : decode cL_law 2569 = .ok (.aload_n 1, 1) := by decide +kernel
theorem dL_law_2570 : decode cL_law 2570 = .ok (.aload_n 3, 1) := by decide +kernel
theorem dL_law_2571 : decode cL_law 2571 = .ok (.invokestatic 336, 3) := by decide +kernel
theorem dL_law_2574 : decode cL_law 2574 = .ok (.istore 6, 2) := by decide +kernel
theorem dL_law_2576 : decode cL_law 2576 = .ok (.aload_n 2, 1) := by decide +kernel
theorem dL_law_2577 : decode cL_law 2577 = .ok (.invokevirtual 338, 3) := by decide +kernel
theorem dL_law_2580 : decode cL_law 2580 = .ok (.istore 7, 2) := by decide +kernel
theorem dL_law_2582 : decode cL_law 2582 = .ok (.aload_n 2, 1) := by decide +kernel
theorem dL_law_2583 : decode cL_law 2583 = .ok (.invokevirtual 161, 3) := by decide +kernel
theorem dL_law_2586 : decode cL_law 2586 = .ok (.iload 6, 2) := by decide +kernel
theorem dL_law_2588 : decode cL_law 2588 = .ok (.if_icmp .eq 5, 3) := by decide +kernel
theorem dL_law_2591 : decode cL_law 2591 = .ok (.iconst 0, 1) := by decide +kernel
theorem dL_law_2592 : decode cL_law 2592 = .ok (.ireturn, 1) := by decide +kernel
theorem dL_law_2593 : decode cL_law 2593 = .ok (.iload 6, 2) := by decide +kernel
theorem dL_law_2595 : decode cL_law 2595 = .ok (.ifCond .ne 15, 3) := by decide +kernel
theorem dL_law_2598 : decode cL_law 2598 = .ok (.aload_n 3, 1) := by decide +kernel
theorem dL_law_2599 : decode cL_law 2599 = .ok (.iconst 0, 1) := by decide +kernel
theorem dL_law_2600 : decode cL_law 2600 = .ok (.laload, 1) := by decide +kernel
theorem dL_law_2601 : decode cL_law 2601 = .ok (.iload 7, 2) := by decide +kernel
theorem dL_law_2603 : decode cL_law 2603 = .ok (.i2l, 1) := by decide +kernel
theorem dL_law_2604 : decode cL_law 2604 = .ok (.lcmp, 1) := by decide +kernel
theorem dL_law_2605 : decode cL_law 2605 = .ok (.ifCond .eq 5, 3) := by decide +kernel
theorem dL_law_2608 : decode cL_law 2608 = .ok (.iconst 0, 1) := by decide +kernel
theorem dL_law_2609 : decode cL_law 2609 = .ok (.ireturn, 1) := by decide +kernel
theorem dL_law_2610 : decode cL_law 2610 = .ok (.goto 205, 3) := by decide +kernel
theorem dL_law_2613 : decode cL_law 2613 = .ok (.aload_n 1, 1) := by decide +kernel
theorem dL_law_2614 : decode cL_law 2614 = .ok (.aload_n 3, 1) := by decide +kernel
theorem dL_law_2615 : decode cL_law 2615 = .ok (.invokestatic 339, 3) := by decide +kernel
theorem dL_law_2618 : decode cL_law 2618 = .ok (.istore 6, 2) := by decide +kernel
theorem dL_law_2620 : decode cL_law 2620 = .ok (.aload_n 2, 1) := by decide +kernel
theorem dL_law_2621 : decode cL_law 2621 = .ok (.invokevirtual 341, 3) := by decide +kernel
theorem dL_law_2624 : decode cL_law 2624 = .ok (.istore 7, 2) := by decide +kernel
theorem dL_law_2626 : decode cL_law 2626 = .ok (.aload_n 2, 1) := by decide +kernel
theorem dL_law_2627 : decode cL_law 2627 = .ok (.invokevirtual 161, 3) := by decide +kernel
theorem dL_law_2630 : decode cL_law 2630 = .ok (.iload 6, 2) := by decide +kernel
theorem dL_law_2632 : decode cL_law 2632 = .ok (.if_icmp .eq 5, 3) := by decide +kernel
theorem dL_law_2635 : decode cL_law 2635 = .ok (.iconst 0, 1) := by decide +kernel
theorem dL_law_2636 : decode cL_law 2636 = .ok (.ireturn, 1) := by decide +kernel
theorem dL_law_2637 : decode cL_law 2637 = .ok (.iload 6, 2) := by decide +kernel
theorem dL_law_2639 : decode cL_law 2639 = .ok (.ifCond .ne 15, 3) := by decide +kernel
theorem dL_law_2642 : decode cL_law 2642 = .ok (.aload_n 3, 1) := by decide +kernel
theorem dL_law_2643 : decode cL_law 2643 = .ok (.iconst 0, 1) := by decide +kernel
theorem dL_law_2644 : decode cL_law 2644 = .ok (.laload, 1) := by decide +kernel
theorem dL_law_2645 : decode cL_law 2645 = .ok (.iload 7, 2) := by decide +kernel
theorem dL_law_2647 : decode cL_law 2647 = .ok (.i2l, 1) := by decide +kernel
theorem dL_law_2648 : decode cL_law 2648 = .ok (.lcmp, 1) := by decide +kernel
theorem dL_law_2649 : decode cL_law 2649 = .ok (.ifCond .eq 5, 3) := by decide +kernel
theorem dL_law_2652 : decode cL_law 2652 = .ok (.iconst 0, 1) := by decide +kernel
theorem dL_law_2653 : decode cL_law 2653 = .ok (.ireturn, 1) := by decide +kernel
theorem dL_law_2654 : decode cL_law 2654 = .ok (.goto 161, 3) := by decide +kernel
theorem dL_law_2657 : decode cL_law 2657 = .ok (.aload_n 1, 1) := by decide +kernel
theorem dL_law_2658 : decode cL_law 2658 = .ok (.aload_n 3, 1) := by decide +kernel
theorem dL_law_2659 : decode cL_law 2659 = .ok (.invokestatic 342, 3) := by decide +kernel
theorem dL_law_2662 : decode cL_law 2662 = .ok (.istore 6, 2) := by decide +kernel
theorem dL_law_2664 : decode cL_law 2664 = .ok (.aload_n 2, 1) := by decide +kernel
theorem dL_law_2665 : decode cL_law 2665 = .ok (.invokevirtual 344, 3) := by decide +kernel
theorem dL_law_2668 : decode cL_law 2668 = .ok (.istore 7, 2) := by decide +kernel
theorem dL_law_2670 : decode cL_law 2670 = .ok (.aload_n 2, 1) := by decide +kernel
theorem dL_law_2671 : decode cL_law 2671 = .ok (.invokevirtual 161, 3) := by decide +kernel
theorem dL_law_2674 : decode cL_law 2674 = .ok (.iload 6, 2) := by decide +kernel
theorem dL_law_2676 : decode cL_law 2676 = .ok (.if_icmp .eq 5, 3) := by decide +kernel
theorem dL_law_2679 : decode cL_law 2679 = .ok (.iconst 0, 1) := by decide +kernel
theorem dL_law_2680 : decode cL_law 2680 = .ok (.ireturn, 1) := by decide +kernel
theorem dL_law_2681 : decode cL_law 2681 = .ok (.iload 6, 2) := by decide +kernel
theorem dL_law_2683 : decode cL_law 2683 = .ok (.ifCond .ne 15, 3) := by decide +kernel
theorem dL_law_2686 : decode cL_law 2686 = .ok (.aload_n 3, 1) := by decide +kernel
theorem dL_law_2687 : decode cL_law 2687 = .ok (.iconst 0, 1) := by decide +kernel
theorem dL_law_2688 : decode cL_law 2688 = .ok (.laload, 1) := by decide +kernel
theorem dL_law_2689 : decode cL_law 2689 = .ok (.iload 7, 2) := by decide +kernel
theorem dL_law_2691 : decode cL_law 2691 = .ok (.i2l, 1) := by decide +kernel
theorem dL_law_2692 : decode cL_law 2692 = .ok (.lcmp, 1) := by decide +kernel
theorem dL_law_2693 : decode cL_law 2693 = .ok (.ifCond .eq 5, 3) := by decide +kernel
theorem dL_law_2696 : decode cL_law 2696 = .ok (.iconst 0, 1) := by decide +kernel
theorem dL_law_2697 : decode cL_law 2697 = .ok (.ireturn, 1) := by decide +kernel
theorem dL_law_2698 : decode cL_law 2698 = .ok (.goto 117, 3) := by decide +kernel
theorem dL_law_2701 : decode cL_law 2701 = .ok (.aload_n 1, 1) := by decide +kernel
theorem dL_law_2702 : decode cL_law 2702 = .ok (.aload_n 3, 1) := by decide +kernel
theorem dL_law_2703 : decode cL_law 2703 = .ok (.invokestatic 345, 3) := by decide +kernel
theorem dL_law_2706 : decode cL_law 2706 = .ok (.istore 6, 2) := by decide +kernel
theorem dL_law_2708 : decode cL_law 2708 = .ok (.aload_n 2, 1) := by decide +kernel
theorem dL_law_2709 : decode cL_law 2709 = .ok (.invokevirtual 347, 3) := by decide +kernel
theorem dL_law_2712 : decode cL_law 2712 = .ok (.istore 7, 2) := by decide +kernel
theorem dL_law_2714 : decode cL_law 2714 = .ok (.aload_n 2, 1) := by decide +kernel
theorem dL_law_2715 : decode cL_law 2715 = .ok (.invokevirtual 161, 3) := by decide +kernel
theorem dL_law_2718 : decode cL_law 2718 = .ok (.iload 6, 2) := by decide +kernel
theorem dL_law_2720 : decode cL_law 2720 = .ok (.if_icmp .eq 5, 3) := by decide +kernel
theorem dL_law_2723 : decode cL_law 2723 = .ok (.iconst 0, 1) := by decide +kernel
theorem dL_law_2724 : decode cL_law 2724 = .ok (.ireturn, 1) := by decide +kernel
theorem dL_law_2725 : decode cL_law 2725 = .ok (.iload 6, 2) := by decide +kernel
theorem dL_law_2727 : decode cL_law 2727 = .ok (.ifCond .ne 15, 3) := by decide +kernel
theorem dL_law_2730 : decode cL_law 2730 = .ok (.aload_n 3, 1) := by decide +kernel
theorem dL_law_2731 : decode cL_law 2731 = .ok (.iconst 0, 1) := by decide +kernel
theorem dL_law_2732 : decode cL_law 2732 = .ok (.laload, 1) := by decide +kernel
theorem dL_law_2733 : decode cL_law 2733 = .ok (.iload 7, 2) := by decide +kernel
theorem dL_law_2735 : decode cL_law 2735 = .ok (.i2l, 1) := by decide +kernel
theorem dL_law_2736 : decode cL_law 2736 = .ok (.lcmp, 1) := by decide +kernel
theorem dL_law_2737 : decode cL_law 2737 = .ok (.ifCond .eq 5, 3) := by decide +kernel
theorem dL_law_2740 : decode cL_law 2740 = .ok (.iconst 0, 1) := by decide +kernel
theorem dL_law_2741 : decode cL_law 2741 = .ok (.ireturn, 1) := by decide +kernel
theorem dL_law_2742 : decode cL_law 2742 = .ok (.goto 73, 3) := by decide +kernel
theorem dL_law_2745 : decode cL_law 2745 = .ok (.aload_n 1, 1) := by decide +kernel
theorem dL_law_2746 : decode cL_law 2746 = .ok (.invokevirtual 348, 3) := by decide +kernel
theorem dL_law_2749 : decode cL_law 2749 = .ok (.aload_n 2, 1) := by decide +kernel
theorem dL_law_2750 : decode cL_law 2750 = .ok (.invokevirtual 351, 3) := by decide +kernel
theorem dL_law_2753 : decode cL_law 2753 = .ok (.if_icmp .eq 62, 3) := by decide +kernel
theorem dL_law_2756 : decode cL_law 2756 = .ok (.iconst 0, 1) := by decide +kernel
theorem dL_law_2757 : decode cL_law 2757 = .ok (.ireturn, 1) := by decide +kernel
theorem dL_law_2758 : decode cL_law 2758 = .ok (.aload_n 1, 1) := by decide +kernel
theorem dL_law_2759 : decode cL_law 2759 = .ok (.invokevirtual 352, 3) := by decide +kernel
theorem dL_law_2762 : decode cL_law 2762 = .ok (.aload_n 2, 1) := by decide +kernel
theorem dL_law_2763 : decode cL_law 2763 = .ok (.invokevirtual 355, 3) := by decide +kernel
theorem dL_law_2766 : decode cL_law 2766 = .ok (.if_icmp .eq 49, 3) := by decide +kernel
theorem dL_law_2769 : decode cL_law 2769 = .ok (.iconst 0, 1) := by decide +kernel
theorem dL_law_2770 : decode cL_law 2770 = .ok (.ireturn, 1) := by decide +kernel
theorem dL_law_2771 : decode cL_law 2771 = .ok (.aload_n 1, 1) := by decide +kernel
theorem dL_law_2772 : decode cL_law 2772 = .ok (.aload_n 3, 1) := by decide +kernel
theorem dL_law_2773 : decode cL_law 2773 = .ok (.invokestatic 356, 3) := by decide +kernel
theorem dL_law_2776 : decode cL_law 2776 = .ok (.istore 6, 2) := by decide +kernel
theorem dL_law_2778 : decode cL_law 2778 = .ok (.aload_n 2, 1) := by decide +kernel
theorem dL_law_2779 : decode cL_law 2779 = .ok (.invokevirtual 358, 3) := by decide +kernel
theorem dL_law_2782 : decode cL_law 2782 = .ok (.istore 7, 2) := by decide +kernel
theorem dL_law_2784 : decode cL_law 2784 = .ok (.aload_n 2, 1) := by decide +kernel
theorem dL_law_2785 : decode cL_law 2785 = .ok (.invokevirtual 161, 3) := by decide +kernel
theorem dL_law_2788 : decode cL_law 2788 = .ok (.iload 6, 2) := by decide +kernel
theorem dL_law_2790 : decode cL_law 2790 = .ok (.if_icmp .eq 5, 3) := by decide +kernel
theorem dL_law_2793 : decode cL_law 2793 = .ok (.iconst 0, 1) := by decide +kernel
theorem dL_law_2794 : decode cL_law 2794 = .ok (.ireturn, 1) := by decide +kernel
theorem dL_law_2795 : decode cL_law 2795 = .ok (.iload 6, 2) := by decide +kernel
theorem dL_law_2797 : decode cL_law 2797 = .ok (.ifCond .ne 15, 3) := by decide +kernel
theorem dL_law_2800 : decode cL_law 2800 = .ok (.aload_n 3, 1) := by decide +kernel
theorem dL_law_2801 : decode cL_law 2801 = .ok (.iconst 0, 1) := by decide +kernel
theorem dL_law_2802 : decode cL_law 2802 = .ok (.laload, 1) := by decide +kernel
theorem dL_law_2803 : decode cL_law 2803 = .ok (.iload 7, 2) := by decide +kernel
theorem dL_law_2805 : decode cL_law 2805 = .ok (.i2l, 1) := by decide +kernel
theorem dL_law_2806 : decode cL_law 2806 = .ok (.lcmp, 1) := by decide +kernel
theorem dL_law_2807 : decode cL_law 2807 = .ok (.ifCond .eq 5, 3) := by decide +kernel
theorem dL_law_2810 : decode cL_law 2810 = .ok (.iconst 0, 1) := by decide +kernel
theorem dL_law_2811 : decode cL_law 2811 = .ok (.ireturn, 1) := by decide +kernel
theorem dL_law_2812 : decode cL_law 2812 = .ok (.goto 3, 3) := by decide +kernel
theorem dL_law_2815 : decode cL_law 2815 = .ok (.iinc 5 4, 3) := by decide +kernel
theorem dL_law_2818 : decode cL_law 2818 = .ok (.goto (-2790), 3) := by decide +kernel
theorem dL_law_2821 : decode cL_law 2821 = .ok (.iconst 1, 1) := by decide +kernel
theorem dL_law_2822 : decode cL_law 2822 = .ok (.ireturn, 1) := by decide +kernel
